/-! law: the call -/
theorem xT_start {m : ej_M} : ej_w (ej_w m 1 2 0) 1 4 0 = xT m 0 0 (m.1 3) := by
  refine Prod.ext (funext fun a => ?_) rfl
  rw [ej_w_rd]
  by_cases h : a = 1
  · subst h
    rw [if_pos rfl]
    rfl
  · rw [if_neg h, ej_w_rd, if_neg h]
    show m.1 a = if a = 1 then _ else if a = 3 then m.1 3 else m.1 a
    rw [if_neg h]
    by_cases h3 : a = 3
    · rw [if_pos h3, h3]
    · rw [if_neg h3]
def SXN (a j : Nat) : Prop := (a = 1 ∧ (j = 1 ∨ j = 2 ∨ j = 4)) ∨ a = 3
def SXW (a j : Nat) : Prop := (a = 1 ∧ (j = 1 ∨ j = 2 ∨ j = 4 ∨ j = 6)) ∨ a = 3 ∨ a = 4 ∨ (a = 6 ∧ j = 14)
theorem sm_xT {m : ej_M} {i b : Nat} {g : Nat → Int32} : oj_sm SXN m (xT m i b g) := by
  refine ⟨rfl, fun a j h => ?_⟩
  unfold SXN at h
  by_cases h1 : a = 1
  · subst h1
    show upd (upd (m.1 1) 2 (nI i)) 4 (nI b) j = m.1 1 j
    unfold upd
    rw [if_neg (by omega), if_neg (by omega)]
  · rw [xT_n h1 (by omega)]
theorem SXN_SXW {a j : Nat} (h : SXN a j) : SXW a j := by unfold SXN at h; unfold SXW; omega
theorem x_read0 {m : ej_M} : f_X2_read m = xLF (nI 1) oj_FU (xT m 0 0 (m.1 3)) := by
  unfold f_X2_read
  have e1 : oj_pf m 1 2 0 = some (ej_w m 1 2 0) := rfl
  have e2 : oj_pf (ej_w m 1 2 0) 1 4 0 = some (xT m 0 0 (m.1 3)) := congrArg some xT_start
  rw [e1, o_bs, e2, o_bs]
  rfl
theorem x_law_none {l i' : Nat} {c : Nat → Nat} {m : ej_M} (hl : l ≤ 120) (hi' : i' ≤ l) (hT : TpX l c m) (h : LsX l c 0 i' none) : oj_wp (f_X10_law m) fun q => q.1 = -100 - nI i' ∧ oj_sm SXN m q.2 ∧ q.2.1 1 1 = 0 := by
  obtain ⟨b', g', e0⟩ := (h m 0 (m.1 3) 0 oj_FU hT (Nat.le_refl _) (Nat.le_refl _) (by unfold oj_FU; omega)).2 rfl
  have e1 : xLF (nI 1) oj_FU (xT m 0 0 (m.1 3)) = f_X2_read_B67 0 (xT m i' b' g') := e0
  unfold f_X10_law
  rw [x_read0, e1]
  unfold f_X2_read_B67 oj_pf
  have e12 : (ej_w (xT m i' b' g') 1 1 0).1 1 2 = nI i' := rfl
  rw [o_bs, if_pos rfl, e12, o_bs, if_neg (show ¬ nI i' = (-1 : Int32) from nI_neq1 (by omega))]
  exact wp_some ⟨rfl, sm_trans sm_xT (sm_w (by unfold SXN; omega)), rfl⟩
theorem x_law_some {l i' : Nat} {c : Nat → Nat} {m : ej_M} {P : List (List Int32 × List Int32)} (hl : l ≤ 120) (hT : TpX l c m) (h : LsX l c 0 i' (some P)) (hR : LsR l 0 i' (some P)) : oj_wp (f_X10_law m) fun q => q.1 = 1 ∧ oj_sm SXW m q.2 ∧ q.2.1 1 1 = 0 ∧ q.2.1 6 14 = m.1 6 14 + 1 ∧ LX (some P) q.2 := by
  obtain ⟨w1, w2, w3⟩ := hR
  obtain ⟨w4, w5, w6⟩ := w3 P rfl
  have e1 : xLF (nI 1) oj_FU (xT m 0 0 (m.1 3)) = f_X2_read_B67 1 (xT m l (0 + (tk_flat P).length) (apL (m.1 3) 0 (tk_flat P))) := (h m 0 (m.1 3) 0 oj_FU hT (Nat.le_refl _) (Nat.le_refl _) (by unfold oj_FU; omega)).1 P rfl
  rw [Nat.zero_add] at e1 w5
  have hn : (tk_flat P).length ≤ 121 := by omega
  generalize hM : ej_w (xT m l (tk_flat P).length (apL (m.1 3) 0 (tk_flat P))) 1 1 0 = M
  have hs0 : oj_sm SXW m M := by
    rw [← hM]
    exact sm_mono (sm_trans sm_xT (sm_w (by unfold SXN; omega))) fun a j => SXN_SXW
  have m14 : M.1 1 4 = nI (tk_flat P).length := by rw [← hM]; rfl
  have m11 : M.1 1 1 = 0 := by rw [← hM]; rfl
  have m3 : M.1 3 = apL (m.1 3) 0 (tk_flat P) := by rw [← hM]; rfl
  have m614 : M.1 6 14 = m.1 6 14 := by rw [← hM]; rfl
  unfold f_X10_law
  rw [x_read0, e1]
  unfold f_X2_read_B67
  have e2 : oj_pf (xT m l (tk_flat P).length (apL (m.1 3) 0 (tk_flat P))) 1 1 0 = some M := congrArg some hM
  rw [e2, o_bs, if_neg i10, m14, x_copy ar_3 ar_4 (by decide) hn hn (by omega), o_bs]
  unfold f_X4_judgeAnew oj_pf
  rw [o_bs, o_bs, if_pos rfl, o_bs, o_bs]
  refine wp_some ⟨rfl, ?_, m11, ?_, ⟨w6, by omega⟩, w4, ?_, fun j hj => ?_⟩
  · exact sm_trans hs0 (sm_trans (sm_row fun j hj => absurd (by unfold SXW; omega) hj) (sm_trans (sm_w (by unfold SXW; omega)) (sm_w (by unfold SXW; omega))))
  · show M.1 6 14 + 1 = m.1 6 14 + 1
    rw [m614]
  · exact m14
  · show o_cp (tk_flat P).length (M.1 3) (M.1 4) j = _
    unfold o_cp
    rw [if_pos hj, m3]
    have := ap_rd (tk_flat P) (m.1 3) 0 j hj
    rw [Nat.zero_add] at this
    exact this
def sIA0 (a j : Nat) : Prop := (a = 6 ∧ (j = 2 ∨ j = 4 ∨ j = 5 ∨ j = 6 ∨ j = 7)) ∨ (a = 41 ∧ (j = 1 ∨ j = 4 ∨ j = 5 ∨ j = 6 ∨ j = 7)) ∨ ((a = 7 ∨ a = 42) ∧ j < 8) ∨ a = 8 ∨ a = 43
theorem IA_law {n k : Nat} {ρ : Nat → Nat} {P P' : Option (List (List Int32 × List Int32))} {m m' : ej_M} (hm : ∀ a j, sIA0 a j → m'.1 a j = m.1 a j) (h : IA n k ρ P m) (hX : LX P' m') (hM : LM P' m') : IA n k ρ P' m' := by
  obtain ⟨h1, h2, h3, h4, h5, h6, h7, h8, h9, h10, h11, h12, h13, h14, h15⟩ := h
  have f : ∀ a, (a = 8 ∨ a = 43) → m'.1 a = m.1 a := fun a ha => funext fun j => hm a j (by unfold sIA0; omega)
  refine ⟨h1, h2, (hm 6 2 (by unfold sIA0; omega)).trans h3, (hm 41 1 (by unfold sIA0; omega)).trans h4, (hm 6 4 (by unfold sIA0; omega)).trans h5, (hm 41 4 (by unfold sIA0; omega)).trans h6, fun i hi => ?_, fun p hp => ?_, h9, ?_, ?_, ?_, ?_, hX, hM⟩
  · rw [hm 42 i (by unfold sIA0; omega), hm 7 i (by unfold sIA0; omega)]; exact h7 i hi
  · rw [f 8 (by omega), f 43 (by omega)]; exact h8 p hp
  · rw [hm 41 5 (by unfold sIA0; omega), hm 6 5 (by unfold sIA0; omega)]; exact h10
  · rw [hm 6 5 (by unfold sIA0; omega)]; exact h11
  · rw [hm 41 6 (by unfold sIA0; omega), hm 6 6 (by unfold sIA0; omega)]; exact h12
  · rw [hm 41 7 (by unfold sIA0; omega), hm 6 7 (by unfold sIA0; omega)]; exact h13
def SLW (a j : Nat) : Prop := SXW a j ∨ SMW a j
theorem IV_law {L : Nat} {xs : Nat → Int32} {n k : Nat} {ρ : Nat → Nat} {P P' : Option (List (List Int32 × List Int32))} {nb : Nat} {m m' : ej_M} (hs : oj_sm SLW m m') (hX : LX P' m') (hM : LM P' m') (h1 : m'.1 1 1 = 0) (h2 : m'.1 41 15 = 0) (h : IV L xs n k ρ P nb m) : IV L xs n k ρ P' nb m' := by
  obtain ⟨hA, hB, hCh, hD, hE, hF, hG⟩ := h
  refine ⟨IA_law (fun a j q => hs.2 a j ?_) hA hX hM, IB_fr (Nat.le_refl _) (fun a j q => hs.2 a j ?_) hB, IC_fr (Nat.le_refl _) (fun a j q => hs.2 a j ?_) hCh, ⟨0, by decide, h1, h2, fun i hi => absurd hi (Nat.not_lt_zero _)⟩, IE_fr (fun a j q => hs.2 a j ?_) hE, IF_fr (Nat.le_refl _) (fun a j q => hs.2 a j ?_) hs.1 hF, IG_fr (fun a j q => hs.2 a j ?_) hG⟩
  · unfold sIA0 at q; unfold SLW SXW SMW; omega
  · unfold sIB at q; unfold SLW SXW SMW; omega
  · unfold sIC at q; unfold SLW SXW SMW; omega
  · unfold sIE at q; unfold SLW SXW SMW; omega
  · unfold sIF at q; unfold SLW SXW SMW; omega
  · unfold SLW SXW SMW; omega
theorem op_law : OP f_X10_law f_X11_law := by
  intro L xs b m ⟨n, k, ρ, P, nb, hI, hC⟩ hb
  obtain ⟨hA, hB, hCh, hD, hE, hF, hG⟩ := id hI
  obtain ⟨l, d1, d2, d3, d4⟩ := hD
  obtain ⟨c, hc, hcx⟩ : ∃ c : Nat → Nat, HC l c ∧ ∀ i, i < l → m.1 2 i = nI (c i) ∧ m.1 48 i = bt (c i) := by
    refine ⟨fun i => if i < l then (m.1 2 i).toNatClampNeg else 256, ⟨d1, fun i hi => ?_, fun i hi => if_neg (by omega)⟩, fun i hi => ?_⟩
    · obtain ⟨v, v1, v2, v3⟩ := d4 i hi
      show (if i < l then (m.1 2 i).toNatClampNeg else 256) < 256
      rw [if_pos hi, v2, nI_clamp (by omega)]
      exact v1
    · obtain ⟨v, v1, v2, v3⟩ := d4 i hi
      have e : (if i < l then (m.1 2 i).toNatClampNeg else 256) = v := by rw [if_pos hi, v2, nI_clamp (by omega)]
      show m.1 2 i = nI (if i < l then (m.1 2 i).toNatClampNeg else 256) ∧ m.1 48 i = bt (if i < l then (m.1 2 i).toNatClampNeg else 256)
      rw [e]
      exact ⟨v2, v3⟩
  have hX : TpX l c m := ⟨d2, fun i hi => (hcx i hi).1, fun t ht => by
    rw [hG (3000 + t) (by omega)]
    funext j
    unfold im_I
    rw [if_neg (by omega), if_neg (by omega), if_neg (by omega), if_neg (by omega), if_pos (by omega), Nat.add_sub_cancel_left]⟩
  have hM : TpM l c m := ⟨d3, fun i hi => (hcx i hi).2⟩
  obtain ⟨hLX, hLM⟩ : LX P m ∧ LM P m := hA.2.2.2.2.2.2.2.2.2.2.2.2.2
  obtain ⟨i', r, w, lX, lM⟩ := lines_ex hc l 0 (Nat.zero_le _) (by omega)
  cases r with
  | none =>
    refine wp_mono (x_law_none d1 w.2.1 hX lX) fun q hq => ?_
    obtain ⟨q1, q2, q3⟩ := hq
    have f : ∀ a, 40 ≤ a → q.2.1 a = m.1 a := fun a ha => funext fun j => q2.2 a j (by unfold SXN; omega)
    have hM2 : TpM l c q.2 := TpM_sm hM q2 (by unfold SXN; omega) (fun j => by unfold SXN; omega)
    have hLM2 : LM P q.2 := LM_congr (by rw [f 41 (by decide)]) (f 51 (by decide)) (f 49 (by decide)) (f 50 (by decide)) (f 52 (by decide)) (f 53 (by decide)) hLM
    refine ⟨⟨f 4000 (by decide), f 4001 (by decide)⟩, wp_mono (m_law_none hc w.2.1 hM2 lM hLM2) fun r hr => ?_⟩
    obtain ⟨r1, r2, r3, r4⟩ := hr
    have hs : oj_sm SLW m r.2 := sm_trans (sm_mono q2 fun a j z => Or.inl (SXN_SXW z)) (sm_mono r2 fun a j z => Or.inr z)
    have hsN : ∀ a j, ¬ SXN a j → ¬ SMW a j → r.2.1 a j = m.1 a j := fun a j z1 z2 => (r2.2 a j z2).trans (q2.2 a j z1)
    refine ⟨q1.trans r1.symm, n, k, ρ, P, nb, IV_law hs ?_ r4 ?_ r3 hI, CB_step (CB_congr hC (fun i _ => hs.2 10 i ?_) ?_ (hs.2 6 15 ?_) (fun i _ => hs.2 7 i ?_))⟩
    · exact LX_congr (hsN 1 6 (by unfold SXN; omega) (by unfold SMW; omega)) (fun j _ => hsN 4 j (by unfold SXN; omega) (by unfold SMW; omega)) hLX
    · exact (r2.2 1 1 (by unfold SMW; omega)).trans q3
    · unfold SLW SXW SMW; omega
    · exact hsN 6 14 (by unfold SXN; omega) (by unfold SMW; omega)
    · unfold SLW SXW SMW; omega
    · unfold SLW SXW SMW; omega
  | some P' =>
    refine wp_mono (x_law_some d1 hX lX w) fun q hq => ?_
    obtain ⟨q1, q2, q3, q4, q5⟩ := hq
    have f : ∀ a, 40 ≤ a → q.2.1 a = m.1 a := fun a ha => funext fun j => q2.2 a j (by unfold SXW; omega)
    have hM2 : TpM l c q.2 := TpM_sm hM q2 (by unfold SXW; omega) (fun j => by unfold SXW; omega)
    refine ⟨⟨f 4000 (by decide), f 4001 (by decide)⟩, wp_mono (m_law_some hc hM2 lM w) fun r hr => ?_⟩
    obtain ⟨r1, r2, r3, r4⟩ := hr
    have hs : oj_sm SLW m r.2 := sm_trans (sm_mono q2 fun a j z => Or.inl z) (sm_mono r2 fun a j z => Or.inr z)
    have g : ∀ a j, ¬ SMW a j → r.2.1 a j = q.2.1 a j := fun a j z => r2.2 a j z
    refine ⟨q1.trans r1.symm, n, k, ρ, some P', nb, IV_law hs ?_ r4 ?_ r3 hI, ?_⟩
    · exact LX_congr (g 1 6 (by unfold SMW; omega)) (fun j _ => g 4 j (by unfold SMW; omega)) q5
    · exact (g 1 1 (by unfold SMW; omega)).trans q3
    · obtain ⟨t, jf, hc1, hc2⟩ := hC
      refine ⟨t + 1, jf, CI_anew hc1 (fun i _ => hs.2 10 i (by unfold SLW SXW SMW; omega)) ?_ ?_ hc1.2.2.2.1, by unfold oST; omega⟩
      · rw [g 6 14 (by unfold SMW; omega), q4, hc1.1, nI_1]
      · exact (hs.2 6 15 (by unfold SLW SXW SMW; omega)).trans hc1.2.2.1
