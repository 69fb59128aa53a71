/-! the start; the loop over the script -/
theorem s_len {L : Nat} {xs : Nat → Int32} {m : ej_M} (hL : L ≤ 3072) (h : m.1 4001 = im_I L xs 4001) : oj_ln m 4000 = some (nI L) := by
  have e : ej_al (ej_sh, m) 4000 = some (0, L) := by
    show (if 4000 < 1000 then none else ej_sa m.1 4000) = _
    rw [if_neg (by decide)]
    show some (0, (m.1 4001 0).toNatClampNeg) = _
    rw [h]
    show some (0, (nI L).toNatClampNeg) = _
    rw [nI_clamp (by omega)]
  unfold oj_ln
  rw [e]
  rfl
theorem s_ld {L i : Nat} {xs : Nat → Int32} {m : ej_M} (hL : L ≤ 3072) (hi : i < L) (h0 : m.1 4000 = im_I L xs 4000) (h : m.1 4001 = im_I L xs 4001) : oj_ld 0 m 4000 (nI i) = some (xs i) := by
  have e : ej_al (ej_sh, m) 4000 = some (0, L) := by
    show (if 4000 < 1000 then none else ej_sa m.1 4000) = _
    rw [if_neg (by decide)]
    show some (0, (m.1 4001 0).toNatClampNeg) = _
    rw [h]
    show some (0, (nI L).toNatClampNeg) = _
    rw [nI_clamp (by omega)]
  unfold oj_ld
  rw [e]
  simp only
  rw [nI_clamp (by omega), if_pos ⟨trivial, fun q => by rcases q with q | q; exact nI_pos (by omega) q; omega⟩, h0]
  rfl
def LI (L : Nat) (xs : Nat → Int32) (i : Nat) (s : Int32 × ej_M) : Prop := s.1 = nI (6 * i) ∧ Inv L xs (1 + i * oST) s.2
theorem op_end {L i : Nat} {xs : Nat → Int32} {m : ej_M} {fx fm : ej_M → Option (Int32 × ej_M)} {G : Int32 × ej_M → Option ((Int32 × ej_M) ⊕ (Int32 × ej_M))} {Q : Int32 × ej_M → Prop} (hop : OP fx fm) (hI : Inv L xs (1 + i * oST) m) (hi : i < 512) (hG : ∀ q : Int32 × ej_M, q.2.1 4000 = m.1 4000 ∧ q.2.1 4001 = m.1 4001 → G q = (fm q.2).bind fun r => if q.1 = r.1 then some (Sum.inl (nI (6 * i) + 6, r.2)) else some (Sum.inr (0, r.2))) :
    oj_wp ((fx m).bind G) (oj_k (LI L xs (i + 1)) Q) := by
  refine wp_bind (wp_mono (hop L xs (1 + i * oST) m hI (by unfold oST; omega)) fun q hq => ?_)
  obtain ⟨q1, q2⟩ := hq
  rw [hG q q1]
  refine wp_bind (wp_mono q2 fun r hr => ?_)
  obtain ⟨r1, r2⟩ := hr
  rw [if_pos r1]
  refine wp_inl ⟨?_, ?_⟩
  · show nI (6 * i) + nI 6 = nI (6 * (i + 1))
    rw [nI_add]
    rfl
  · rw [show 1 + (i + 1) * oST = 1 + i * oST + oST by rw [Nat.add_mul, Nat.one_mul]; omega]
    exact r2
theorem op_endL {L i : Nat} {xs : Nat → Int32} {m : ej_M} {fx fm : ej_M → Option (Int64 × ej_M)} {G : Int64 × ej_M → Option ((Int32 × ej_M) ⊕ (Int32 × ej_M))} {Q : Int32 × ej_M → Prop} (hop : OPL fx fm) (hI : Inv L xs (1 + i * oST) m) (hi : i < 512) (hG : ∀ q : Int64 × ej_M, q.2.1 4000 = m.1 4000 ∧ q.2.1 4001 = m.1 4001 → G q = (fm q.2).bind fun r => if (lg_cmp q.1 r.1) = 0 then some (Sum.inl (nI (6 * i) + 6, r.2)) else some (Sum.inr (0, r.2))) :
    oj_wp ((fx m).bind G) (oj_k (LI L xs (i + 1)) Q) := by
  refine wp_bind (wp_mono (hop L xs (1 + i * oST) m hI (by unfold oST; omega)) fun q hq => ?_)
  obtain ⟨q1, q2⟩ := hq
  rw [hG q q1]
  refine wp_bind (wp_mono q2 fun r hr => ?_)
  obtain ⟨r1, r2⟩ := hr
  rw [if_pos ((lg_0 _ _).mpr r1)]
  refine wp_inl ⟨?_, ?_⟩
  · show nI (6 * i) + nI 6 = nI (6 * (i + 1))
    rw [nI_add]
    rfl
  · rw [show 1 + (i + 1) * oST = 1 + i * oST + oST by rw [Nat.add_mul, Nat.one_mul]; omega]
    exact r2
theorem l_body (hlaw : OP f_X10_law f_X11_law) {L i : Nat} {xs : Nat → Int32} {m : ej_M} {Q : Int32 × ej_M → Prop} (hL : L ≤ 3072) (hi : 6 * i + 6 ≤ L) (hI : Inv L xs (1 + i * oST) m) : oj_wp (f_L_law_L18b (nI (6 * i)) m) (oj_k (LI L xs (i + 1)) Q) := by
  have hG : IG L xs m := by
    obtain ⟨n, k, ρ, P, nb, h, _⟩ := hI
    exact h.2.2.2.2.2.2
  have e0 := hG 4000 (by decide)
  have e1 := hG 4001 (by decide)
  have hi5 : i < 512 := by omega
  have hl : ∀ (d : Nat) (x : Int32), x = nI (6 * i) + nI d → d < 6 → ∀ m' : ej_M, m'.1 4000 = m.1 4000 ∧ m'.1 4001 = m.1 4001 → oj_ld 0 m' 4000 x = some (xs (6 * i + d)) := fun d x hx hd m' e => by
    rw [hx, nI_add]
    exact s_ld hL (by omega) (e.1.trans e0) (e.2.trans e1)
  have l1 := hl 1 (nI (6 * i) + 1) rfl (by decide)
  have l2 := hl 2 (nI (6 * i) + 2) rfl (by decide)
  have l3 := hl 3 (nI (6 * i) + 3) rfl (by decide)
  have l4 := hl 4 (nI (6 * i) + 4) rfl (by decide)
  have l5 := hl 5 (nI (6 * i) + 5) rfl (by decide)
  have hm : m.1 4000 = m.1 4000 ∧ m.1 4001 = m.1 4001 := ⟨rfl, rfl⟩
  unfold f_L_law_L18b
  rw [s_len hL e1, o_bs, if_neg (show ¬ nI L - 6 < nI (6 * i) from fun q => by
    rw [show nI L - 6 = nI (L - 6) from nI_sub (b := 6) (by omega)] at q
    have := (nI_ltI (by omega) (by omega)).mp q
    omega), s_ld hL (by omega) e0 e1, o_bs]
  generalize xs (6 * i) &&& 63 = w
  by_cases c : w = 0
  · rw [if_pos c, l1 m hm, o_bs]
    exact op_end (op_stone _) hI hi5 fun q e => by simp only [l1 q.2 e, o_bs]
  rw [if_neg c]
  by_cases c : w = 1
  · rw [if_pos c, l1 m hm, o_bs, l2 m hm, o_bs, l3 m hm, o_bs]
    exact op_end (op_stones _ _ _) hI hi5 fun q e => by simp only [l1 q.2 e, l2 q.2 e, l3 q.2 e, o_bs]
  rw [if_neg c]
  by_cases c : w = 2
  · rw [if_pos c, l1 m hm, o_bs, l2 m hm, o_bs, l3 m hm, o_bs]
    exact op_end (op_mend _ _ _) hI hi5 fun q e => by simp only [l1 q.2 e, l2 q.2 e, l3 q.2 e, o_bs]
  rw [if_neg c]
  by_cases c : w = 3
  · rw [if_pos c, l1 m hm, o_bs, l2 m hm, o_bs]
    exact op_end (op_of _ _) hI hi5 fun q e => by simp only [l1 q.2 e, l2 q.2 e, o_bs]
  rw [if_neg c]
  by_cases c : w = 4
  · rw [if_pos c, l1 m hm, o_bs]
    exact op_end (op_feed _) hI hi5 fun q e => by simp only [l1 q.2 e, o_bs]
  rw [if_neg c]
  by_cases c : w = 5
  · rw [if_pos c]
    exact op_end hlaw hI hi5 fun q e => rfl
  rw [if_neg c]
  by_cases c : w = 6
  · rw [if_pos c, l1 m hm, o_bs, l2 m hm, o_bs]
    exact op_end (op_set _ _) hI hi5 fun q e => by simp only [l1 q.2 e, l2 q.2 e, o_bs]
  rw [if_neg c]
  by_cases c : w = 7
  · rw [if_pos c, l1 m hm, o_bs]
    exact op_end (op_take _) hI hi5 fun q e => by simp only [l1 q.2 e, o_bs]
  rw [if_neg c]
  by_cases c : w = 8
  · rw [if_pos c, l1 m hm, o_bs]
    exact op_end (op_turn _) hI hi5 fun q e => by simp only [l1 q.2 e, o_bs]
  rw [if_neg c]
  by_cases c : w = 9
  · rw [if_pos c]
    exact op_end op_broken hI hi5 fun q e => rfl
  rw [if_neg c]
  by_cases c : w = 10
  · rw [if_pos c]
    exact op_end op_maySell hI hi5 fun q e => rfl
  rw [if_neg c]
  by_cases c : w = 11
  · rw [if_pos c, l1 m hm, o_bs]
    exact op_end (op_ways _) hI hi5 fun q e => by simp only [l1 q.2 e, o_bs]
  rw [if_neg c]
  by_cases c : w = 12
  · rw [if_pos c, l1 m hm, o_bs, l2 m hm, o_bs]
    exact op_end (op_rows _ _) hI hi5 fun q e => by simp only [l1 q.2 e, l2 q.2 e, o_bs]
  rw [if_neg c]
  by_cases c : w = 13
  · rw [if_pos c, l1 m hm, o_bs]
    exact op_end (op_ounces _) hI hi5 fun q e => by simp only [l1 q.2 e, o_bs]
  rw [if_neg c]
  by_cases c : w = 14
  · rw [if_pos c, l1 m hm, o_bs]
    exact op_end (op_makeUp _) hI hi5 fun q e => by simp only [l1 q.2 e, o_bs]
  rw [if_neg c]
  by_cases c : w = 15
  · rw [if_pos c, l1 m hm, o_bs]
    exact op_end (op_ends _) hI hi5 fun q e => by simp only [l1 q.2 e, o_bs]
  rw [if_neg c]
  by_cases c : w = 16
  · rw [if_pos c, l1 m hm, o_bs]
    exact op_end (op_aside _) hI hi5 fun q e => by simp only [l1 q.2 e, o_bs]
  rw [if_neg c]
  by_cases c : w = 17
  · rw [if_pos c, l1 m hm, o_bs]
    exact op_end (op_soldOn _) hI hi5 fun q e => by simp only [l1 q.2 e, o_bs]
  rw [if_neg c]
  by_cases c : w = 18
  · rw [if_pos c, l1 m hm, o_bs, l2 m hm, o_bs]
    exact op_end (op_worth _ _) hI hi5 fun q e => by simp only [l1 q.2 e, l2 q.2 e, o_bs]
  rw [if_neg c]
  by_cases c : w = 19
  · rw [if_pos c, l1 m hm, o_bs]
    exact op_end (op_fewest _) hI hi5 fun q e => by simp only [l1 q.2 e, o_bs]
  rw [if_neg c]
  by_cases c : w = 20
  · rw [if_pos c, l1 m hm, o_bs, l2 m hm, o_bs]
    exact op_end (op_book _ _) hI hi5 fun q e => by simp only [l1 q.2 e, l2 q.2 e, o_bs]
  rw [if_neg c]
  by_cases c : w = 21
  · rw [if_pos c, l1 m hm, o_bs, l2 m hm, o_bs, l3 m hm, o_bs]
    exact op_end (op_mixed _ _ _) hI hi5 fun q e => by simp only [l1 q.2 e, l2 q.2 e, l3 q.2 e, o_bs]
  rw [if_neg c]
  by_cases c : w = 22
  · rw [if_pos c]
    exact op_end op_image hI hi5 fun q e => rfl
  rw [if_neg c]
  by_cases c : w = 23
  · rw [if_pos c]
    exact op_end op_back hI hi5 fun q e => rfl
  rw [if_neg c]
  by_cases c : w = 24
  · rw [if_pos c]
    exact op_end op_undo hI hi5 fun q e => rfl
  rw [if_neg c]
  by_cases c : w = 25
  · rw [if_pos c]
    exact op_end op_redo hI hi5 fun q e => rfl
  rw [if_neg c]
  by_cases c : w = 26
  · rw [if_pos c, l1 m hm, o_bs]
    exact op_end (op_body _) hI hi5 fun q e => by simp only [l1 q.2 e, o_bs]
  rw [if_neg c]
  by_cases c : w = 27
  · rw [if_pos c, l1 m hm, o_bs, l2 m hm, o_bs, l3 m hm, o_bs]
    exact op_end (op_act _ _ _) hI hi5 fun q e => by simp only [l1 q.2 e, l2 q.2 e, l3 q.2 e, o_bs]
  rw [if_neg c]
  by_cases c : w = 28
  · rw [if_pos c, l1 m hm, o_bs]
    exact op_end (op_trace _) hI hi5 fun q e => by simp only [l1 q.2 e, o_bs]
  rw [if_neg c]
  by_cases c : w = 29
  · rw [if_pos c, l1 m hm, o_bs, l2 m hm, o_bs]
    exact op_end (op_keep _ _) hI hi5 fun q e => by simp only [l1 q.2 e, l2 q.2 e, o_bs]
  rw [if_neg c]
  by_cases c : w = 30
  · rw [if_pos c, l1 m hm, o_bs, l2 m hm, o_bs, l3 m hm, o_bs]
    exact op_end (op_row _ _ _) hI hi5 fun q e => by simp only [l1 q.2 e, l2 q.2 e, l3 q.2 e, o_bs]
  rw [if_neg c]
  by_cases c : w = 31
  · rw [if_pos c, l1 m hm, o_bs, l2 m hm, o_bs, l3 m hm, o_bs, l4 m hm, o_bs]
    exact op_end (op_put _ _ _) hI hi5 fun q e => by simp only [l1 q.2 e, l2 q.2 e, l3 q.2 e, l4 q.2 e, o_bs]
  rw [if_neg c]
  by_cases c : w = 32
  · rw [if_pos c, l1 m hm, o_bs, l2 m hm, o_bs]
    exact op_endL (op_element _ _) hI hi5 fun q e => by simp only [l1 q.2 e, l2 q.2 e, o_bs]
  rw [if_neg c]
  by_cases c : w = 33
  · rw [if_pos c, l1 m hm, o_bs, l2 m hm, o_bs, l3 m hm, o_bs, l4 m hm, o_bs, l5 m hm, o_bs]
    exact op_end (op_shift _ _ _ _ _) hI hi5 fun q e => by simp only [l1 q.2 e, l2 q.2 e, l3 q.2 e, l4 q.2 e, l5 q.2 e, o_bs]
  rw [if_neg c]
  by_cases c : w = 34
  · rw [if_pos c, l1 m hm, o_bs, l2 m hm, o_bs]
    exact op_end (op_taken _ _) hI hi5 fun q e => by simp only [l1 q.2 e, l2 q.2 e, o_bs]
  rw [if_neg c]
  by_cases c : w = 35
  · rw [if_pos c, l1 m hm, o_bs]
    exact op_end (op_count _) hI hi5 fun q e => by simp only [l1 q.2 e, o_bs]
  rw [if_neg c]
  refine wp_inl ⟨?_, ?_⟩
  · show nI (6 * i) + nI 6 = nI (6 * (i + 1))
    rw [nI_add]
    rfl
  · obtain ⟨n, k, ρ, P, nb, h, hC⟩ := hI
    exact ⟨n, k, ρ, P, nb, h, CB_le hC (by rw [Nat.add_mul, Nat.one_mul]; omega)⟩
theorem l_loop (hlaw : OP f_X10_law f_X11_law) {L : Nat} {xs : Nat → Int32} {m : ej_M} (hL : L ≤ 3072) (hI : Inv L xs 1 m) : ∃ m', f_L_law_L18 0 m = some (1, m') := by
  have : oj_wp (f_L_law_L18 0 m) fun q => q.1 = 1 := by
    unfold f_L_law_L18
    refine wp_loop (LI L xs) (L / 6) (by unfold oj_FU; omega) (fun i s hi hS => ?_) (fun s hS => ?_) (i0 := 0) (by omega) ⟨rfl, by rw [Nat.zero_mul]; exact hI⟩
    · obtain ⟨v, m1⟩ := s
      obtain ⟨rfl, h⟩ := hS
      exact l_body hlaw hL (by omega) h
    · obtain ⟨v, m1⟩ := s
      obtain ⟨rfl, h⟩ := hS
      simp only at h ⊢
      have hG : IG L xs m1 := by
        obtain ⟨n, k, ρ, P, nb, h, _⟩ := h
        exact h.2.2.2.2.2.2
      unfold f_L_law_L18b
      rw [s_len hL (hG 4001 (by decide)), o_bs, if_pos]
      · exact wp_inr rfl
      · by_cases z : 6 ≤ L
        · rw [show nI L - 6 = nI (L - 6) from nI_sub (b := 6) z]
          exact (nI_ltI (by omega) (by omega)).mpr (by omega)
        · rw [show L / 6 = 0 by omega]
          rcases (by omega : L = 0 ∨ L = 1 ∨ L = 2 ∨ L = 3 ∨ L = 4 ∨ L = 5) with rfl | rfl | rfl | rfl | rfl | rfl <;> decide
  obtain ⟨⟨v, m'⟩, h1, h2⟩ := this
  simp only at h2
  exact ⟨m', by rw [h1, h2]⟩
