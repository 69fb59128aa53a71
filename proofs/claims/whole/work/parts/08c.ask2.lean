/-! calls that only ask: broken, of, count, trace -/
theorem IV_XR {L : Nat} {xs : Nat → Int32} {n k : Nat} {ρ : Nat → Nat} {P : Option (List (List Int32 × List Int32))} {nb b : Nat} {m : ej_M} (h : IV L xs n k ρ P nb m) (hc : CN P k b m) (hb : b < 2 ^ 28) : XR P 8 k ρ b m := by
  obtain ⟨⟨h1, h2, h3, h4, h5, h6, h7, h8, h9, h10, h11, h12, h13, h14, h15⟩, _⟩ := h
  exact ⟨h14, hc, hb, by omega, ⟨8, ar_8, by omega⟩, fun q hq => ⟨(h8 q hq).1, by have := (h8 q hq).2.2; omega⟩⟩
theorem IV_see {L : Nat} {xs : Nat → Int32} {n k : Nat} {ρ : Nat → Nat} {P : Option (List (List Int32 × List Int32))} {nb : Nat} {m : ej_M} (h : IV L xs n k ρ P nb m) : oj_wp (f_X11_see m) fun q => oj_sm SE m q.2 ∧ MR P k ρ q.2 := by
  obtain ⟨⟨h1, h2, h3, h4, h5, h6, h7, h8, h9, h10, h11, h12, h13, h14, h15⟩, _⟩ := h
  exact m_see h15 h6 (by omega) fun q hq => ⟨(h8 q hq).2.1, by have := (h8 q hq).2.2; omega⟩
theorem both_lw {L : Nat} {xs : Nat → Int32} {n k : Nat} {ρ : Nat → Nat} {P : Option (List (List Int32 × List Int32))} {nb : Nat} {m m' : ej_M} (h : IV L xs n k ρ P nb m') (hs : oj_sm SX m m') {ρ' : Nat → Nat} {n' p : Nat} (hρ : ∀ q, q < n' → ρ' q < n) (hp : p < n') : lw P (m'.1 42) (m'.1 41 5) ρ' n' p = lw P (m.1 7) (m.1 6 5) ρ' n' p := by
  obtain ⟨⟨h1, h2, h3, h4, h5, h6, h7, h8, h9, h10, h11, h12, h13, h14, h15⟩, _⟩ := h
  rw [h10, hs.2 6 5 (by unfold SX; omega)]
  refine lw_congr hp fun q hq => ⟨rfl, ?_⟩
  rw [(h7 _ (hρ q hq)).1, hs.2 7 _ (by have := hρ q hq; unfold SX; omega)]
theorem CN_step {P : Option (List (List Int32 × List Int32))} {b n : Nat} {m : ej_M} (h : CN P n (b + 1) m) : CB P (b + oST) m := CB_le (CN_B h) (by unfold oST; omega)
theorem CB_step {P : Option (List (List Int32 × List Int32))} {b : Nat} {m : ej_M} (h : CB P b m) : CB P (b + oST) m := CB_le h (by unfold oST; omega)
theorem sm_XC {m m' : ej_M} (h : oj_sm XC m m') : oj_sm SX m m' := sm_mono h fun _ _ => XC_SX
theorem sm_MC {m m' : ej_M} (h : oj_sm MC m m') : oj_sm SM m m' := sm_mono h fun _ _ => MC_SM
theorem sm_SE {m m' : ej_M} (h : oj_sm SE m m') : oj_sm SM m m' := sm_mono h fun _ _ => SE_SM
theorem SE_42 {m m' : ej_M} (h : oj_sm SE m m') : m'.1 42 = m.1 42 := funext fun j => h.2 42 j (by unfold SE; omega)
theorem SE_415 {m m' : ej_M} (h : oj_sm SE m m') : m'.1 41 5 = m.1 41 5 := h.2 41 5 (by unfold SE; omega)
theorem SE_4 {m m' : ej_M} (h : oj_sm SE m m') : m'.1 41 4 = m.1 41 4 := h.2 41 4 (by unfold SE; omega)
theorem op_broken : OP f_X10_broken f_X11_broken := by
  refine OP_ask fun L xs n k ρ P nb b m hI hC hb => ?_
  have hA := hI.1
  have hXR := IV_XR hI (CB_N hC k) (by unfold oST at hb; omega)
  unfold f_X10_broken
  rw [hA.2.2.2.2.1]
  refine wp_bind (wp_mono (x_first hXR (by decide)) fun q hq => ?_)
  obtain ⟨q1, q2, q3⟩ := hq
  refine wp_some ⟨sm_XC q2, CN_step q3, fun m' hI' hs => ?_⟩
  simp only
  unfold f_X11_broken
  refine wp_bind (wp_mono (IV_see hI') fun r hr => ?_)
  obtain ⟨r1, r2⟩ := hr
  have hk : k ≤ 8 := by have := hA.1; have := hA.2.1; omega
  unfold f_X11_broken_L6
  have hlw : ∀ p, p < k → lw P (m'.1 42) (m'.1 41 5) ρ k p = lw P (m.1 7) (m.1 6 5) ρ k p := fun p hp => both_lw hI' hs (fun q hq => (hI.1.2.2.2.2.2.2.2.1 q hq).2.2) hp
  have hgo : oj_wp (oj_loop (fun q : (Int32 × ej_M) => f_X11_broken_L6b q.1 q.2) oj_FU (0, r.2)) fun w => x_fst w.1 (lw P (m'.1 42) (m'.1 41 5) ρ k) k ∧ oj_sm SM m' w.2 := by
    refine wp_loop (fun i (s : Int32 × ej_M) => s.1 = nI i ∧ oj_sm MC r.2 s.2 ∧ ∀ p, p < i → lw P (m'.1 42) (m'.1 41 5) ρ k p = true) k (by unfold oj_FU; omega) (fun i s hi hJ => ?_) (fun s hJ => ?_) (i0 := 0) (by omega) ⟨rfl, sm_refl, fun p hp => by omega⟩
    · obtain ⟨v, m2⟩ := s
      obtain ⟨rfl, i1, i3⟩ := hJ
      simp only at i1 ⊢
      have hR := MR_go r2 i1
      unfold f_X11_broken_L6b
      rw [i1.2 41 4 (by unfold MC; omega), SE_4 r1, hI'.1.2.2.2.2.2.1, if_neg (fun q => by have := (nI_leI (by omega) (by omega)).mp q; omega)]
      refine wp_bind (wp_mono (m_at hR hi) fun w hw => ?_)
      obtain ⟨w1, w2⟩ := hw
      rw [MC_42 i1, MC_415 i1, SE_42 r1, SE_415 r1] at w1
      by_cases hl : lw P (m'.1 42) (m'.1 41 5) ρ k i = true
      · rw [w1, if_pos hl, if_neg (by decide)]
        refine wp_inl ⟨nI_1 i, sm_trans i1 w2, fun p hp => ?_⟩
        by_cases e : p = i
        · rw [e]; exact hl
        · exact i3 p (by omega)
      · rw [w1, if_neg hl, if_pos rfl]
        exact wp_inr ⟨Or.inl ⟨i, hi, by simpa using hl, i3, rfl⟩, sm_trans (sm_SE r1) (sm_MC (sm_trans i1 w2))⟩
    · obtain ⟨v, m2⟩ := s
      obtain ⟨rfl, i1, i3⟩ := hJ
      simp only at i1 ⊢
      unfold f_X11_broken_L6b
      rw [i1.2 41 4 (by unfold MC; omega), SE_4 r1, hI'.1.2.2.2.2.2.1, if_pos (Int32.le_refl _)]
      exact wp_inr ⟨Or.inr ⟨i3, rfl⟩, sm_trans (sm_SE r1) (sm_MC i1)⟩
  exact wp_mono hgo fun w hw => ⟨fst_eq (fst_congr (fun p hp => (hlw p hp).symm) q1) hw.1, hw.2⟩
/-- an answer that comes with no change -/
theorem OP_same {fx fm : ej_M → Option (Int32 × ej_M)} (h : ∀ (L : Nat) (xs : Nat → Int32) (n k : Nat) (ρ : Nat → Nat) (P : Option (List (List Int32 × List Int32))) (nb : Nat) (m : ej_M), IV L xs n k ρ P nb m → ∃ v, fx m = some (v, m) ∧ fm m = some (v, m)) : OP fx fm := by
  intro L xs b m ⟨n, k, ρ, P, nb, hI, hC⟩ hb
  obtain ⟨v, h1, h2⟩ := h L xs n k ρ P nb m hI
  exact wp_eq h1 ⟨⟨rfl, rfl⟩, wp_eq h2 ⟨rfl, n, k, ρ, P, nb, hI, CB_step hC⟩⟩
theorem op_count (v : Int32) : OP (f_X10_count v) (f_X11_count v) := by
  refine OP_same fun L xs n k ρ P nb m hI => ?_
  obtain ⟨⟨h1, h2, h3, h4, h5, h6, h7, h8, h9, h10, h11, h12, h13, h14, h15⟩, hB, ⟨d, u, c1, c2, c3, c4, c5, c6⟩, ⟨l, d1, d2, d3, d4⟩, ⟨e1, e2, e3, e4, r, e5, e6, e7, e8⟩, hF, hG⟩ := hI
  unfold f_X10_count f_X11_count
  rw [h3, h4, h5, h6, d2, d3, c2, c3, e2, e3, e6, e7]
  by_cases k0 : v = 0
  · rw [if_pos k0]; exact ⟨_, rfl, rfl⟩
  rw [if_neg k0]
  by_cases k1 : v = 1
  · rw [if_pos k1]; exact ⟨_, rfl, rfl⟩
  rw [if_neg k1]
  by_cases k2 : v = 2
  · rw [if_pos k2]; exact ⟨_, rfl, rfl⟩
  rw [if_neg k2]
  by_cases k3 : v = 3
  · rw [if_pos k3]; exact ⟨_, rfl, rfl⟩
  rw [if_neg k3]
  by_cases k4 : v = 4
  · rw [if_pos k4]; exact ⟨_, rfl, rfl⟩
  rw [if_neg k4]
  by_cases k5 : v = 5
  · rw [if_pos k5]; exact ⟨_, rfl, rfl⟩
  rw [if_neg k5]
  exact ⟨_, rfl, rfl⟩
theorem op_trace (v : Int32) : OP (f_X10_trace v) (f_X11_trace v) := by
  refine OP_same fun L xs n k ρ P nb m hI => ?_
  obtain ⟨_, _, _, _, ⟨e1, e2, e3, e4, r, e5, e6, e7, e8⟩, _⟩ := hI
  unfold f_X10_trace f_X0_traced f_X11_trace
  rw [e6, e7]
  by_cases k0 : v < 0
  · rw [if_pos k0, if_pos k0, o_bs]; exact ⟨_, rfl, rfl⟩
  rw [if_neg k0, if_neg k0]
  obtain ⟨i, hi, rfl⟩ := nI_of k0
  by_cases k1 : nI r ≤ nI i
  · rw [if_pos k1, if_pos k1, o_bs]; exact ⟨_, rfl, rfl⟩
  rw [if_neg k1, if_neg k1]
  by_cases k2 : 24 ≤ nI i
  · rw [if_pos k2, if_pos k2, o_bs]; exact ⟨_, rfl, rfl⟩
  rw [if_neg k2, if_neg k2]
  have i1 : i < r := by
    by_cases q : i < r
    · exact q
    · exact absurd ((nI_leI (by omega) hi).mpr (by omega)) k1
  have i2 : i < 24 := by
    by_cases q : i < 24
    · exact q
    · exact absurd ((nI_leI (a := 24) (by decide) hi).mpr (by omega)) k2
  rw [p_at1 ar_36 i2, o_bs, o_bs, oj_ar_ld ar_65 i2, o_bs, e8 i i1 i2]
  exact ⟨_, rfl, rfl⟩
theorem m_rowLawful {L : Nat} {xs : Nat → Int32} {n k : Nat} {ρ : Nat → Nat} {P : Option (List (List Int32 × List Int32))} {nb : Nat} {m : ej_M} (h : IV L xs n k ρ P nb m) : oj_wp (f_X11_isRowLawful m) fun q => q.1 = (if lwA (lw P (m.1 42) (m.1 41 5) ρ k) k then 1 else 0) ∧ oj_sm SE m q.2 := by
  unfold f_X11_isRowLawful
  refine wp_bind (wp_mono (IV_see h) fun r hr => ?_)
  refine wp_bind (wp_mono (m_all hr.2) fun q hq => ?_)
  rw [SE_42 hr.1, SE_415 hr.1] at hq
  rw [hq.1]
  have : oj_sm SE m q.2 := sm_trans hr.1 (sm_mono hq.2 fun a j x => by unfold MC at x; unfold SE; omega)
  by_cases e : lwA (lw P (m.1 42) (m.1 41 5) ρ k) k = true
  · rw [if_pos e]; exact wp_eq (rz_1 q.2) ⟨rfl, this⟩
  · rw [if_neg e]; exact wp_eq (rz_0 q.2) ⟨rfl, this⟩
