/-! law: what was read is kept -/
def cpo (n v : Nat) (g : Nat → Int32) : Nat → Int32 := fun j => if j < v then g (n + j) else g j
theorem cpo_step {n v : Nat} {g : Nat → Int32} : upd (cpo n v g) v (g (n + v)) = cpo n (v + 1) g := by
  funext j
  unfold upd cpo
  by_cases e : j = v
  · rw [if_pos e, if_pos (by omega), e]
  · rw [if_neg e]
    by_cases h2 : j < v
    · rw [if_pos h2, if_pos (by omega)]
    · rw [if_neg h2, if_neg (by omega)]
theorem cpo_hi {n v j : Nat} {g : Nat → Int32} (h : v ≤ j) : cpo n v g j = g j := if_neg (by omega)
theorem cpo_lo {n v j : Nat} {g : Nat → Int32} (h : j < v) : cpo n v g j = g (n + j) := if_pos h
theorem cpo_0 {n : Nat} {g : Nat → Int32} : cpo n 0 g = g := funext fun j => if_neg (by omega)
theorem row4 {M : ej_M} {a b : Nat} {f g F G : Nat → Int32} : oj_row (oj_row (oj_row (oj_row M a f) b g) a F) b G = oj_row (oj_row M a F) b G := by
  refine Prod.ext (funext fun x => ?_) rfl
  show (if x = b then G else if x = a then F else if x = b then g else if x = a then f else M.1 x) = (if x = b then G else if x = a then F else M.1 x)
  by_cases hb : x = b
  · rw [if_pos hb, if_pos hb]
  · by_cases ha : x = a
    · rw [if_neg hb, if_pos ha, if_neg hb, if_pos ha]
    · rw [if_neg hb, if_neg ha, if_neg hb, if_neg ha, if_neg hb, if_neg ha]
def cA (M : ej_M) (v : Nat) : ej_M := oj_row (oj_row M 49 (cpo 130 v (M.1 49))) 50 (cpo 130 v (M.1 50))
def cB (M : ej_M) (v : Nat) : ej_M := oj_row (oj_row M 52 (cpo 61 v (M.1 52))) 53 (cpo 61 v (M.1 53))
theorem nar_b2 : ∀ k, k < 128 → vp_nar .byte (nI k) = nI k := by decide +kernel
theorem nar_sh2 : ∀ k, k < 800 → vp_nar .short (nI k) = nI k := by decide +kernel
theorem m_copyA {M : ej_M} {b : Nat} (hb : b < 130) (h19 : M.1 41 19 = nI b) (hA : ∀ j, j < b → ∃ a, a < 128 ∧ M.1 49 (130 + j) = nI a) :
    ∀ e v K, v + e = b → e < K → oj_loop (fun q : (Int32 × ej_M) => f_X11_readText_L105b 0 q.1 q.2) K (nI v, cA M v) = f_X11_readText_L177 0 0 (oj_row (cA M b) 51 (upd (M.1 51) 0 (M.1 51 1))) := by
  intro e
  induction e with
  | zero =>
    intro v K hv hK
    obtain ⟨K, rfl⟩ : ∃ K', K = K' + 1 := ⟨K - 1, by omega⟩
    obtain rfl : v = b := by omega
    refine loop_map ?_
    show f_X11_readText_L105b 0 (nI v) (cA M v) = _
    unfold f_X11_readText_L105b
    have h : (cA M v).1 41 19 = nI v := h19
    rw [h, if_pos (Int32.le_refl _), ld_51, o_bs, st_510, o_bs]
    rfl
  | succ e ih =>
    intro v K hv hK
    obtain ⟨K, rfl⟩ : ∃ K', K = K' + 1 := ⟨K - 1, by omega⟩
    refine (loop_inl ?_).trans (ih (v + 1) K (by omega) (by omega))
    show f_X11_readText_L105b 0 (nI v) (cA M v) = _
    unfold f_X11_readText_L105b
    have h : (cA M v).1 41 19 = nI b := h19
    obtain ⟨a, a1, a2⟩ := hA v (by omega)
    have e130 : (130 : Int32) + nI v = nI (130 + v) := nI_add 130 v
    have e0 : (130 : Int32) * 0 + nI v = nI v := by rw [Int32.mul_zero, Int32.zero_add]
    have h49 : (cA M v).1 49 = cpo 130 v (M.1 49) := rfl
    have h50 : (cA M v).1 50 = cpo 130 v (M.1 50) := rfl
    rw [h, if_neg (fun q => by have := (nI_leI (by omega) (by omega)).mp q; omega), e130, e0, oj_art_ld ar_49 (by omega), o_bs, h49, cpo_hi (by omega), a2, nar_b2 a a1, oj_art_st ar_49 (by omega), o_bs, h49, ← a2, cpo_step, oj_ar_ld ar_50 (by omega), o_bs, oj_row_n (by decide), h50, cpo_hi (by omega), oj_ar_st ar_50 (by omega), o_bs, oj_row_n (by decide), h50, cpo_step, nI_1]
    unfold cA
    rw [row4]
theorem m_copyB {M : ej_M} {N : Nat} (hN : N ≤ 61) (h51 : M.1 51 0 = nI N) (hT : ∀ j, j < N → (∃ x, x < 800 ∧ M.1 52 (61 + j) = nI x) ∧ ∃ x, x < 800 ∧ M.1 53 (61 + j) = nI x) : f_X11_readText_L177 0 0 M = some (-1, cB M N) := by
  unfold f_X11_readText_L177
  refine l_up (cB M) (n := N) (by omega) (i0 := 0) (by omega) ?_ (fun v _ hv => ?_) ?_
  · unfold cB
    rw [cpo_0, cpo_0, oj_row_id, oj_row_id]
  · show f_X11_readText_L177b 0 (nI v) (cB M v) = _
    unfold f_X11_readText_L177b
    have h : (cB M v).1 51 0 = nI N := h51
    obtain ⟨⟨x, x1, x2⟩, ⟨y, y1, y2⟩⟩ := hT v hv
    have e61 : (61 : Int32) + nI v = nI (61 + v) := nI_add 61 v
    have e0 : (61 : Int32) * 0 + nI v = nI v := by rw [Int32.mul_zero, Int32.zero_add]
    have h52 : (cB M v).1 52 = cpo 61 v (M.1 52) := rfl
    have h53 : (cB M v).1 53 = cpo 61 v (M.1 53) := rfl
    rw [ld_510, o_bs, h, if_neg (fun q => by have := (nI_leI (by omega) (by omega)).mp q; omega), e61, e0, oj_art_ld ar_52 (by omega), o_bs, h52, cpo_hi (by omega), x2, nar_sh2 x x1, oj_art_st ar_52 (by omega), o_bs, h52, ← x2, cpo_step, oj_art_ld ar_53 (by omega), o_bs, oj_row_n (by decide), h53, cpo_hi (by omega), y2, nar_sh2 y y1, oj_art_st ar_53 (by omega), o_bs, oj_row_n (by decide), h53, ← y2, cpo_step, nI_1]
    unfold cB
    rw [row4]
  · show f_X11_readText_L177b 0 (nI N) (cB M N) = _
    unfold f_X11_readText_L177b
    have h : (cB M N).1 51 0 = nI N := h51
    rw [ld_510, o_bs, h, if_pos (Int32.le_refl _)]
theorem LM_two {Q : Option (List (List Int32 × List Int32))} {m m' : ej_M} (h27 : m'.1 41 27 = m.1 41 27) (h51 : m'.1 51 0 = m.1 51 0) (h52 : ∀ j, j < 61 → m'.1 52 j = m.1 52 j ∧ m'.1 53 j = m.1 53 j) (h49 : ∀ j, j < 130 → m'.1 49 j = m.1 49 j ∧ m'.1 50 j = m.1 50 j) (h : LM Q m) : LM Q m' := by
  cases Q with
  | none => exact h27.trans h
  | some Q =>
    obtain ⟨⟨a1, a2⟩, a3, a4, a5, a6⟩ := h
    have b1 := tk_flat_len Q a1
    have b2 := tot_flat Q
    exact ⟨⟨a1, a2⟩, a3, h27.trans a4, h51.trans a5, LMl_two Q 0 0 (fun j _ hj => h52 j (by omega)) (fun j _ hj => h49 j (by omega)) a6⟩
theorem mT_start {m : ej_M} : ej_w (ej_w (ej_w (ej_w m 41 16 0) 41 17 (-1)) 41 18 0) 41 19 0 = mT m 0 (-1) (nI 0) 0 (m.1 49) (m.1 50) := by
  refine Prod.ext (funext fun a => ?_) rfl
  rw [ej_w_rd]
  by_cases h : a = 41
  · subst h
    rw [if_pos rfl]
    rfl
  · rw [if_neg h, ej_w_rd, if_neg h, ej_w_rd, if_neg h, ej_w_rd, if_neg h]
    show m.1 a = if a = 41 then _ else if a = 49 then m.1 49 else if a = 50 then m.1 50 else m.1 a
    rw [if_neg h]
    by_cases h49 : a = 49
    · rw [if_pos h49, h49]
    · rw [if_neg h49]
      by_cases h50 : a = 50
      · rw [if_pos h50, h50]
      · rw [if_neg h50]
theorem m_read0 {m : ej_M} : f_X11_readText 0 m = mLF oj_FU (mT (oj_row m 51 (upd (m.1 51) 1 0)) 0 (-1) (nI 0) 0 (m.1 49) (m.1 50)) := by
  unfold f_X11_readText oj_pf
  rw [o_bs, o_bs, o_bs, o_bs, mT_start, st_51, o_bs, mT_row (by decide) (by decide) (by decide), mT_n (by decide) (by decide) (by decide)]
  rfl
def SMW (a j : Nat) : Prop := (a = 41 ∧ (j = 15 ∨ j = 16 ∨ j = 17 ∨ j = 18 ∨ j = 19 ∨ j = 27)) ∨ (49 ≤ a ∧ a ≤ 53)
theorem sm_mT {m : ej_M} {i b : Nat} {f o : Int32} {A W : Nat → Int32} : oj_sm SMW m (mT m i f o b A W) := by
  refine ⟨rfl, fun a j h => ?_⟩
  by_cases h41 : a = 41
  · subst h41
    show upd (upd (upd (upd (m.1 41) 16 (nI i)) 17 f) 18 o) 19 (nI b) j = m.1 41 j
    unfold SMW at h
    unfold upd
    rw [if_neg (by omega), if_neg (by omega), if_neg (by omega), if_neg (by omega)]
  · unfold SMW at h
    rw [mT_n h41 (by omega) (by omega)]
theorem SL_SMW {k a j : Nat} (h : SL k a j) : SMW a j := by unfold SL at h; unfold SMW; omega
theorem m_law_none {l i' : Nat} {c : Nat → Nat} {m : ej_M} {Q : Option (List (List Int32 × List Int32))} (hc : HC l c) (hi' : i' ≤ l) (hT : TpM l c m) (h : LsM l c 0 i' none) (hQ : LM Q m) : oj_wp (f_X11_law m) fun r => r.1 = -100 - nI i' ∧ oj_sm SMW m r.2 ∧ r.2.1 41 15 = 0 ∧ LM Q r.2 := by
  have hl := hc.1
  have hT5 : TpM l c (oj_row m 51 (upd (m.1 51) 1 0)) := TpM_row hT (by decide) (by decide)
  obtain ⟨m', f', o', b', A', W', e1, e2, e3, e4⟩ := (h (oj_row m 51 (upd (m.1 51) 1 0)) 0 (m.1 49) (m.1 50) 0 oj_FU hT5 (Nat.le_refl _) rfl (Nat.le_refl _) (by unfold oj_FU; omega)).2 rfl
  have hT' : TpM l c m' := TpM_sm hT5 e3 (by unfold SL; omega) (fun j => by unfold SL; omega)
  have eB : f_X11_readText_B64 0 (mT m' i' f' o' b' A' W') = some (nI i', ej_w (mT m' i' (nI i') o' b' A' W') 41 15 0) := by
    have e86 : f_X11_readText_B86 0 (mT m' i' (nI i') o' b' A' W') = some (nI i', ej_w (mT m' i' (nI i') o' b' A' W') 41 15 0) := by
      unfold f_X11_readText_B86 oj_pf
      rw [o_bs]
      have h17 : (ej_w (mT m' i' (nI i') o' b' A' W') 41 15 0).1 41 17 = nI i' := rfl
      rw [h17, if_neg (nI_pos (by omega))]
    unfold f_X11_readText_B64
    rcases e2 with rfl | ⟨rfl, e2⟩
    · rw [mT_17, if_pos (nI_pos' (by omega)), e86]
    · rw [mT_17, if_neg (show ¬ (0 : Int32) ≤ -1 by decide), mT_15, mT_16, hT'.1, if_neg (fun q => by have := (nI_leI (by omega) (by omega)).mp q; omega), m_faulty, o_bs, e86]
  have hs5 : oj_sm SMW m (oj_row m 51 (upd (m.1 51) 1 0)) := sm_upd (by unfold SMW; omega)
  have hs : oj_sm SMW m (ej_w (mT m' i' (nI i') o' b' A' W') 41 15 0) := sm_trans (sm_trans hs5 (sm_mono e3 fun a j => SL_SMW)) (sm_trans sm_mT (sm_w (by unfold SMW; omega)))
  unfold f_X11_law
  rw [m_read0, e1, eB, o_bs, if_neg (nI_pos (by omega))]
  refine wp_some ⟨rfl, hs, rfl, LM_two ?_ ?_ (fun j hj => ?_) (fun j hj => ?_) hQ⟩
  · exact e3.2 41 27 (by unfold SL; omega)
  · exact e3.2 51 0 (by unfold SL; omega)
  · exact ⟨e3.2 52 j (by unfold SL; omega), e3.2 53 j (by unfold SL; omega)⟩
  · exact e4 j (by omega)
theorem m_law_some {l i' : Nat} {c : Nat → Nat} {m : ej_M} {P : List (List Int32 × List Int32)} (hc : HC l c) (hT : TpM l c m) (h : LsM l c 0 i' (some P)) (hR : LsR l 0 i' (some P)) : oj_wp (f_X11_law m) fun r => r.1 = 1 ∧ oj_sm SMW m r.2 ∧ r.2.1 41 15 = 0 ∧ LM (some P) r.2 := by
  have hl := hc.1
  obtain ⟨w1, w2, w3⟩ := hR
  obtain ⟨w4, w5, w6⟩ := w3 P rfl
  have b1 := tk_flat_len P w6
  have b2 := tot_flat P
  have hT5 : TpM l c (oj_row m 51 (upd (m.1 51) 1 0)) := TpM_row hT (by decide) (by decide)
  obtain ⟨m', A', W', e1, e2, e3, e4, e5, e6, e7⟩ := (h (oj_row m 51 (upd (m.1 51) 1 0)) 0 (m.1 49) (m.1 50) 0 oj_FU hT5 (Nat.le_refl _) rfl (Nat.le_refl _) (by unfold oj_FU; omega)).1 P rfl
  have hT' : TpM l c m' := TpM_sm hT5 e2 (by unfold SL; omega) (fun j => by unfold SL; omega)
  rw [Nat.zero_add] at e1 e4
  generalize hM0 : ej_w (mT m' l (-1) (nI 0) (tot P) A' W') 41 15 0 = M0
  have hs0 : oj_sm SMW m M0 := by
    rw [← hM0]
    have hs5 : oj_sm SMW m (oj_row m 51 (upd (m.1 51) 1 0)) := sm_upd (by unfold SMW; omega)
    exact sm_trans (sm_trans hs5 (sm_mono e2 fun a j => SL_SMW)) (sm_trans sm_mT (sm_w (by unfold SMW; omega)))
  have m17 : M0.1 41 17 = -1 := by rw [← hM0]; rfl
  have m15 : M0.1 41 15 = 0 := by rw [← hM0]; rfl
  have m19 : M0.1 41 19 = nI (tot P) := by rw [← hM0]; rfl
  have m49 : M0.1 49 = A' := by rw [← hM0]; rfl
  have m50 : M0.1 50 = W' := by rw [← hM0]; rfl
  have m51 : M0.1 51 1 = nI P.length := by rw [← hM0]; exact e4
  have m52 : M0.1 52 = m'.1 52 := by rw [← hM0]; rfl
  have m53 : M0.1 53 = m'.1 53 := by rw [← hM0]; rfl
  have eB : f_X11_readText_B64 0 (mT m' l (-1) (nI 0) (tot P) A' W') = f_X11_readText_L105 0 0 M0 := by
    unfold f_X11_readText_B64
    rw [mT_17, if_neg (show ¬ (0 : Int32) ≤ -1 by decide), mT_15, mT_16, hT'.1, if_pos (Int32.le_refl _)]
    unfold f_X11_readText_B86 oj_pf
    rw [o_bs, hM0, m17, if_pos (by decide)]
  have eA : f_X11_readText_L105 0 0 M0 = f_X11_readText_L177 0 0 (oj_row (cA M0 (tot P)) 51 (upd (M0.1 51) 0 (M0.1 51 1))) := by
    have := m_copyA (M := M0) (b := tot P) (by omega) m19 (fun j hj => by rw [m49]; exact e6 j (Nat.zero_le _) (by omega)) (tot P) 0 oj_FU (by omega) (by unfold oj_FU; omega)
    have h0 : cA M0 0 = M0 := by
      unfold cA
      rw [cpo_0, cpo_0, oj_row_id, oj_row_id]
    rw [h0] at this
    exact this
  generalize hM1 : oj_row (cA M0 (tot P)) 51 (upd (M0.1 51) 0 (M0.1 51 1)) = M1 at eA
  have hs1 : oj_sm SMW M0 M1 := by
    rw [← hM1]
    unfold cA
    exact sm_trans (sm_trans (sm_row fun j hj => absurd (by unfold SMW; omega) hj) (sm_row fun j hj => absurd (by unfold SMW; omega) hj)) (sm_row fun j hj => absurd (by unfold SMW; omega) hj)
  have n51 : M1.1 51 0 = nI P.length := by
    rw [← hM1]
    exact m51
  have n52 : M1.1 52 = m'.1 52 := by rw [← hM1]; exact m52
  have n53 : M1.1 53 = m'.1 53 := by rw [← hM1]; exact m53
  have n49 : M1.1 49 = cpo 130 (tot P) A' := by rw [← hM1, ← m49]; rfl
  have n50 : M1.1 50 = cpo 130 (tot P) W' := by rw [← hM1, ← m50]; rfl
  have n15 : M1.1 41 15 = 0 := by rw [← hM1]; exact m15
  have eC := m_copyB (M := M1) (N := P.length) (by omega) n51 (fun j hj => by rw [n52, n53]; exact e7 j (Nat.zero_le _) (by omega))
  have hs2 : oj_sm SMW M1 (cB M1 P.length) := sm_trans (sm_row fun j hj => absurd (by unfold SMW; omega) hj) (sm_row fun j hj => absurd (by unfold SMW; omega) hj)
  unfold f_X11_law
  rw [m_read0, e1, eB, eA, eC, o_bs, if_pos (show (-1 : Int32) < 0 by decide)]
  unfold oj_pz
  rw [if_pos (Or.inr rfl), o_bs]
  refine wp_some ⟨rfl, sm_trans hs0 (sm_trans hs1 (sm_trans hs2 (sm_w (by unfold SMW; omega)))), n15, ⟨w6, by omega⟩, w4, rfl, n51, ?_⟩
  refine LMl_two P 0 0 (fun j _ hj => ?_) (fun j _ hj => ?_) e5
  · show cpo 61 P.length (M1.1 52) j = m'.1 52 (61 + j) ∧ cpo 61 P.length (M1.1 53) j = m'.1 53 (61 + j)
    rw [cpo_lo (by omega), cpo_lo (by omega), n52, n53]
    exact ⟨rfl, rfl⟩
  · show M1.1 49 j = A' (130 + j) ∧ M1.1 50 j = W' (130 + j)
    rw [n49, n50, cpo_lo (by omega), cpo_lo (by omega)]
    exact ⟨rfl, rfl⟩
