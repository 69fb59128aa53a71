/-! the first calls -/
theorem r_cases (v : Int32) (N : Nat) : (∃ i, i < N ∧ v = nI i) ∨ ∀ i, i < N → v ≠ nI i := by
  by_cases h : ∃ i, i < N ∧ v = nI i
  · exact Or.inl h
  · exact Or.inr fun i hi e => h ⟨i, hi, e⟩
theorem r_no {v : Int32} {N : Nat} (hN : N < 2 ^ 31) (h : ∀ i, i < N → v ≠ nI i) : v < 0 ∨ nI N ≤ v := by
  by_cases hv : v < 0
  · exact Or.inl hv
  · obtain ⟨j, hj, rfl⟩ := nI_of hv
    refine Or.inr ((nI_leI hN hj).mpr ?_)
    by_cases hh : N ≤ j
    · exact hh
    · exact absurd rfl (h j (by omega))
theorem m_inY {i N : Nat} (h : i < N) (hN : N < 2 ^ 31) (m : ej_M) : f_X11_in (nI i) 0 (nI N - 1) m = some (1, m) :=
  p_in1 (nI_0le (by omega)) (by rw [nI_m1 (by omega)]; exact (nI_leI (by omega) (by omega)).mpr (by omega)) m
theorem m_inN {v : Int32} {N : Nat} (hN : N < 2 ^ 31) (h : ∀ i, i < N → v ≠ nI i) (m : ej_M) : f_X11_in v 0 (nI N - 1) m = some (0, m) := by
  refine p_in0 (fun q => ?_) m
  obtain ⟨q1, q2⟩ := q
  rcases r_no hN h with a | a
  · exact absurd q1 (Int32.not_le.mpr a)
  · by_cases h0 : N = 0
    · subst h0
      exact absurd (Int32.le_trans q1 q2) (by decide)
    · rw [nI_m1 (by omega)] at q2
      have := (nI_leI (by omega) (by omega)).mp (Int32.le_trans a q2)
      omega
theorem x_rangeY {i N : Nat} {α : Type} {a b : α} (h : i < N) (hN : N < 2 ^ 31) : (if nI i < 0 then a else if nI N ≤ nI i then a else b) = b := by
  rw [if_neg (nI_pos (by omega)), if_neg (fun q => by have := (nI_leI hN (by omega)).mp q; omega)]
theorem x_rangeN {v : Int32} {N : Nat} {α : Type} {a b : α} (hN : N < 2 ^ 31) (h : ∀ i, i < N → v ≠ nI i) : (if v < 0 then a else if nI N ≤ v then a else b) = a := by
  rcases r_no hN h with k | k
  · rw [if_pos k]
  · rw [if_pos k]
    exact ite_self a
theorem x_hasY {m : ej_M} {n i : Nat} (hm : m.1 6 2 = nI n) (hn : n < 2 ^ 31) (h : i < n) : f_X4_has (nI i) m = some (1, m) := by
  unfold f_X4_has; rw [hm]; exact x_rangeY h hn
theorem x_hasN {m : ej_M} {n : Nat} {v : Int32} (hm : m.1 6 2 = nI n) (hn : n < 2 ^ 31) (h : ∀ i, i < n → v ≠ nI i) : f_X4_has v m = some (0, m) := by
  unfold f_X4_has; rw [hm]; exact x_rangeN hn h
theorem x_placeY {m : ej_M} {n i : Nat} (hm : m.1 6 4 = nI n) (hn : n < 2 ^ 31) (h : i < n) : f_X4_isPlace (nI i) m = some (1, m) := by
  unfold f_X4_isPlace; rw [hm]; exact x_rangeY h hn
theorem x_placeN {m : ej_M} {n : Nat} {v : Int32} (hm : m.1 6 4 = nI n) (hn : n < 2 ^ 31) (h : ∀ i, i < n → v ≠ nI i) : f_X4_isPlace v m = some (0, m) := by
  unfold f_X4_isPlace; rw [hm]; exact x_rangeN hn h
theorem x_bodyY {m : ej_M} {n i : Nat} (hm : m.1 34 1 = nI n) (hn : n < 2 ^ 31) (h : i < n) : f_X0_has (nI i) m = some (1, m) := by
  unfold f_X0_has; rw [hm]; exact x_rangeY h hn
theorem x_bodyN {m : ej_M} {n : Nat} {v : Int32} (hm : m.1 34 1 = nI n) (hn : n < 2 ^ 31) (h : ∀ i, i < n → v ≠ nI i) : f_X0_has v m = some (0, m) := by
  unfold f_X0_has; rw [hm]; exact x_rangeN hn h
theorem x_shelfY {m : ej_M} {i : Nat} (h : i < 6) : f_X6_has (nI i) m = some (1, m) := by
  unfold f_X6_has; exact x_rangeY (N := 6) h (by decide)
theorem x_shelfN {m : ej_M} {v : Int32} (h : ∀ i, i < 6 → v ≠ nI i) : f_X6_has v m = some (0, m) := by
  unfold f_X6_has; exact x_rangeN (N := 6) (by decide) h
theorem rz_0 (m : ej_M) : oj_rz 0 m = some (0, m) := rfl
theorem rz_1 (m : ej_M) : oj_rz 1 m = some (1, m) := rfl
theorem m_stoneY {m : ej_M} {n i : Nat} (hm : m.1 41 1 = nI n) (hn : n < 2 ^ 31) (h : i < n) : f_X11_isStone (nI i) m = some (1, m) := by
  unfold f_X11_isStone; rw [hm, m_inY h hn, o_bs]; exact rz_1 m
theorem m_stoneN {m : ej_M} {n : Nat} {v : Int32} (hm : m.1 41 1 = nI n) (hn : n < 2 ^ 31) (h : ∀ i, i < n → v ≠ nI i) : f_X11_isStone v m = some (0, m) := by
  unfold f_X11_isStone; rw [hm, m_inN hn h, o_bs]; exact rz_0 m
theorem m_placeY {m : ej_M} {n i : Nat} (hm : m.1 41 4 = nI n) (hn : n < 2 ^ 31) (h : i < n) : f_X11_isPlace (nI i) m = some (1, m) := by
  unfold f_X11_isPlace; rw [hm, m_inY h hn, o_bs]; exact rz_1 m
theorem m_placeN {m : ej_M} {n : Nat} {v : Int32} (hm : m.1 41 4 = nI n) (hn : n < 2 ^ 31) (h : ∀ i, i < n → v ≠ nI i) : f_X11_isPlace v m = some (0, m) := by
  unfold f_X11_isPlace; rw [hm, m_inN hn h, o_bs]; exact rz_0 m
theorem m_bodyY {m : ej_M} {n i : Nat} (hm : m.1 41 43 = nI n) (hn : n < 2 ^ 31) (h : i < n) : f_X11_isBody (nI i) m = some (1, m) := by
  unfold f_X11_isBody; rw [hm, m_inY h hn, o_bs]; exact rz_1 m
theorem m_bodyN {m : ej_M} {n : Nat} {v : Int32} (hm : m.1 41 43 = nI n) (hn : n < 2 ^ 31) (h : ∀ i, i < n → v ≠ nI i) : f_X11_isBody v m = some (0, m) := by
  unfold f_X11_isBody; rw [hm, m_inN hn h, o_bs]; exact rz_0 m
-- where a stone is
def pl_f (ρ : Nat → Nat) (v : Int32) (p : Nat) : Bool := decide (nI (ρ p) ≠ v)
theorem x_placeIn {m : ej_M} {o N n : Nat} {ρ : Nat → Nat} (ho : oj_ar o N) (hn : n ≤ N) (h9 : n < 1000) (hρ : ∀ q, q < n → m.1 o q = nI (ρ q)) (v : Int32) : ∃ u, f_X4_placeIn o (nI n) v m = some (u, m) ∧ x_fst u (pl_f ρ v) n := by
  have : oj_wp (f_X4_placeIn o (nI n) v m) fun q => q.2 = m ∧ x_fst q.1 (pl_f ρ v) n := by
    unfold f_X4_placeIn f_X4_placeIn_L2
    refine wp_loop (fun i (s : Int32 × ej_M) => s = (nI i, m) ∧ ∀ p, p < i → pl_f ρ v p = true) n (by unfold oj_FU; omega) (fun i s hi hI => ?_) (fun s hI => ?_) (i0 := 0) (by omega) ⟨rfl, fun p hp => by omega⟩
    · obtain ⟨rfl, i3⟩ := hI
      simp only
      unfold f_X4_placeIn_L2b
      rw [if_neg (fun q => by have := (nI_leI (by omega) (by omega)).mp q; omega), p_at1 ho (by omega), o_bs, hρ i hi]
      by_cases e : nI (ρ i) = v
      · rw [if_pos e]
        exact wp_inr ⟨rfl, Or.inl ⟨i, hi, decide_eq_false (fun q => q e), i3, rfl⟩⟩
      · rw [if_neg e]
        refine wp_inl ⟨by rw [nI_1], fun p hp => ?_⟩
        by_cases e2 : p = i
        · rw [e2]; exact decide_eq_true e
        · exact i3 p (by omega)
    · obtain ⟨rfl, i3⟩ := hI
      simp only
      unfold f_X4_placeIn_L2b
      rw [if_pos (Int32.le_refl _)]
      exact wp_inr ⟨rfl, Or.inr ⟨i3, rfl⟩⟩
  obtain ⟨⟨u, m'⟩, h1, h2, h3⟩ := this
  simp only at h2 h3
  exact ⟨u, by rw [h1, h2], h3⟩
theorem x_placeOf {m : ej_M} {n : Nat} {ρ : Nat → Nat} (hm : m.1 6 4 = nI n) (hn : n ≤ 8) (hρ : ∀ q, q < n → m.1 8 q = nI (ρ q)) (v : Int32) : ∃ u, f_X4_placeOf v m = some (u, m) ∧ x_fst u (pl_f ρ v) n := by
  obtain ⟨u, h1, h2⟩ := x_placeIn ar_8 hn (by omega) hρ v
  exact ⟨u, by unfold f_X4_placeOf; rw [hm, h1, o_bs], h2⟩
theorem m_placeOf {m : ej_M} {n : Nat} {ρ : Nat → Nat} (hm : m.1 41 4 = nI n) (hn : n ≤ 8) (hρ : ∀ q, q < n → m.1 43 q = nI (ρ q)) (v : Int32) : ∃ u, f_X11_placeOf v m = some (u, m) ∧ x_fst u (pl_f ρ v) n := by
  have : oj_wp (f_X11_placeOf v m) fun q => q.2 = m ∧ x_fst q.1 (pl_f ρ v) n := by
    unfold f_X11_placeOf f_X11_placeOf_L2
    refine wp_loop (fun i (s : Int32 × ej_M) => s = (nI i, m) ∧ ∀ p, p < i → pl_f ρ v p = true) n (by unfold oj_FU; omega) (fun i s hi hI => ?_) (fun s hI => ?_) (i0 := 0) (by omega) ⟨rfl, fun p hp => by omega⟩
    · obtain ⟨rfl, i3⟩ := hI
      simp only
      unfold f_X11_placeOf_L2b
      rw [hm, if_neg (fun q => by have := (nI_leI (by omega) (by omega)).mp q; omega), oj_ar_ld ar_43 (by omega), o_bs, hρ i hi]
      by_cases e : nI (ρ i) = v
      · rw [if_pos e]
        exact wp_inr ⟨rfl, Or.inl ⟨i, hi, decide_eq_false (fun q => q e), i3, rfl⟩⟩
      · rw [if_neg e]
        refine wp_inl ⟨by rw [nI_1], fun p hp => ?_⟩
        by_cases e2 : p = i
        · rw [e2]; exact decide_eq_true e
        · exact i3 p (by omega)
    · obtain ⟨rfl, i3⟩ := hI
      simp only
      unfold f_X11_placeOf_L2b
      rw [hm, if_pos (Int32.le_refl _)]
      exact wp_inr ⟨rfl, Or.inr ⟨i3, rfl⟩⟩
  obtain ⟨⟨u, m'⟩, h1, h2, h3⟩ := this
  simp only at h2 h3
  exact ⟨u, by rw [h1, h2], h3⟩
-- the reference looks at its row
def SE (a j : Nat) : Prop := (a = 41 ∧ j = 29) ∨ a = 54 ∨ a = 55 ∨ a = 56
theorem SE_SM {a j : Nat} (h : SE a j) : SM a j := by unfold SE at h; unfold SM; omega
theorem m_see {m : ej_M} {n : Nat} {ρ : Nat → Nat} {P : Option (List (List Int32 × List Int32))} (hL : LM P m) (hm : m.1 41 4 = nI n) (hn : n ≤ 8) (hρ : ∀ q, q < n → m.1 43 q = nI (ρ q) ∧ ρ q < 8) : oj_wp (f_X11_see m) fun q => oj_sm SE m q.2 ∧ MR P n ρ q.2 := by
  unfold f_X11_see f_X11_see_L10 oj_pf
  rw [o_bs]
  refine wp_loop (fun i (s : Int32 × ej_M) => s.1 = nI i ∧ oj_sm SE m s.2 ∧ s.2.1 41 29 = nI n ∧ ∀ p, p < i → s.2.1 56 p = nI (ρ p)) n (by unfold oj_FU; omega) (fun i s hi hI => ?_) (fun s hI => ?_) (i0 := 0) (by omega) ⟨rfl, sm_w (Or.inl ⟨rfl, rfl⟩), by rw [w_same, hm], fun p hp => by omega⟩
  · obtain ⟨v, m'⟩ := s
    obtain ⟨rfl, i1, i2, i3⟩ := hI
    simp only at i1 i2 i3 ⊢
    unfold f_X11_see_L10b
    rw [i1.2 41 4 (by unfold SE; omega), hm, if_neg (fun q => by have := (nI_leI (by omega) (by omega)).mp q; omega), oj_ar_ld ar_43 (by omega), o_bs, oj_ar_st ar_56 (by omega), o_bs]
    refine wp_inl ⟨nI_1 i, sm_trans i1 (sm_upd (by unfold SE; omega)), ?_, fun p hp => ?_⟩
    · rw [oj_row_n (by decide)]; exact i2
    · rw [r_at]
      by_cases e : p = i
      · rw [if_pos ⟨rfl, e⟩, e, i1.2 43 i (by unfold SE; omega)]; exact (hρ i hi).1
      · rw [if_neg (fun q => e q.2)]; exact i3 p (by omega)
  · obtain ⟨v, m'⟩ := s
    obtain ⟨rfl, i1, i2, i3⟩ := hI
    simp only at i1 i2 i3 ⊢
    unfold f_X11_see_L10b
    rw [i1.2 41 4 (by unfold SE; omega), hm, if_pos (Int32.le_refl _)]
    refine wp_inr ⟨i1, ?_, by omega, i2, fun q hq => ⟨i3 q hq, by have := (hρ q hq).2; omega⟩⟩
    have f : ∀ a, (a = 49 ∨ a = 50 ∨ a = 51 ∨ a = 52 ∨ a = 53) → m'.1 a = m.1 a := fun a ha => funext fun j => i1.2 a j (by unfold SE; omega)
    exact LM_congr (i1.2 41 27 (by unfold SE; omega)) (f 51 (by omega)) (f 49 (by omega)) (f 50 (by omega)) (f 52 (by omega)) (f 53 (by omega)) hL
theorem MR_go {P : Option (List (List Int32 × List Int32))} {n : Nat} {ρ : Nat → Nat} {m m' : ej_M} (h : MR P n ρ m) (hs : oj_sm MC m m') : MR P n ρ m' := by
  obtain ⟨h1, h2, h3, h4⟩ := h
  have f : ∀ a, (a = 49 ∨ a = 50 ∨ a = 51 ∨ a = 52 ∨ a = 53) → m'.1 a = m.1 a := fun a ha => funext fun j => hs.2 a j (by unfold MC; omega)
  exact ⟨LM_congr (hs.2 41 27 (by unfold MC; omega)) (f 51 (by omega)) (f 49 (by omega)) (f 50 (by omega)) (f 52 (by omega)) (f 53 (by omega)) h1, h2, (hs.2 41 29 (by unfold MC; omega)).trans h3, fun q hq => ⟨(hs.2 56 q (by unfold MC; omega)).trans (h4 q hq).1, (h4 q hq).2⟩⟩
theorem MC_42 {m m' : ej_M} (h : oj_sm MC m m') : m'.1 42 = m.1 42 := funext fun j => h.2 42 j (by unfold MC; omega)
theorem MC_415 {m m' : ej_M} (h : oj_sm MC m m') : m'.1 41 5 = m.1 41 5 := h.2 41 5 (by unfold MC; omega)
theorem m_all {P : Option (List (List Int32 × List Int32))} {n : Nat} {ρ : Nat → Nat} {m : ej_M} (h : MR P n ρ m) :
    oj_wp (f_X11_isLawful m) (fun q => q.1 = (if lwA (lw P (m.1 42) (m.1 41 5) ρ n) n then 1 else 0) ∧ oj_sm MC m q.2) := by
  unfold f_X11_isLawful f_X11_isLawful_L2
  have h9 : n < 10 := h.2.1
  refine wp_loop (fun i (s : Int32 × ej_M) => s.1 = nI i ∧ oj_sm MC m s.2 ∧ ∀ p, p < i → lw P (m.1 42) (m.1 41 5) ρ n p = true) n (by unfold oj_FU; omega) (fun i s hi hI => ?_) (fun s hI => ?_) (i0 := 0) (by omega) ⟨rfl, sm_refl, fun p hp => by omega⟩
  · obtain ⟨v, m'⟩ := s
    obtain ⟨rfl, i1, i3⟩ := hI
    simp only at i1 ⊢
    have hR := MR_go h i1
    unfold f_X11_isLawful_L2b
    rw [hR.2.2.1, if_neg (fun q => by have := (nI_leI (by omega) (by omega)).mp q; omega)]
    refine wp_bind (wp_mono (m_at hR hi) fun q hq => ?_)
    obtain ⟨q1, q2⟩ := hq
    rw [MC_42 i1, MC_415 i1] at q1
    by_cases hl : lw P (m.1 42) (m.1 41 5) ρ n i = true
    · rw [q1, if_pos hl, if_neg (by decide)]
      refine wp_inl ⟨nI_1 i, sm_trans i1 q2, fun p hp => ?_⟩
      by_cases e : p = i
      · rw [e]; exact hl
      · exact i3 p (by omega)
    · rw [q1, if_neg hl, if_pos rfl]
      refine wp_inr ⟨?_, sm_trans i1 q2⟩
      unfold lwA
      rw [if_neg (fun e => hl ((of_decide_eq_true (p := ∀ p, p < n → lw P (m.1 42) (m.1 41 5) ρ n p = true) e) i hi))]
  · obtain ⟨v, m'⟩ := s
    obtain ⟨rfl, i1, i3⟩ := hI
    simp only at i1 ⊢
    unfold f_X11_isLawful_L2b
    rw [(MR_go h i1).2.2.1, if_pos (Int32.le_refl _)]
    refine wp_inr ⟨?_, i1⟩
    unfold lwA
    rw [if_pos (decide_eq_true i3)]
/-- the two sides speak of the same weights -/
theorem lw_congr {P : Option (List (List Int32 × List Int32))} {w w' : Nat → Int32} {g : Int32} {ρ ρ' : Nat → Nat} {n p : Nat} (hp : p < n) (hρ : ∀ q, q < n → ρ q = ρ' q ∧ w (ρ q) = w' (ρ' q)) : lw P w g ρ n p = lw P w' g ρ' n p := by
  have e : ∀ c, c ≤ n → lw_w w (lw_c ρ c) = lw_w w' (lw_c ρ' c) := fun c hc => by
    cases c with
    | zero => rfl
    | succ c => rw [lw_c_s, lw_w_s, lw_c_s, lw_w_s]; exact (hρ c (by omega)).2
  unfold lw
  rw [e _ (pl_l_le hp), e _ (pl_r_le hp), (hρ p hp).2, (hρ p hp).1]
theorem lwA_congr {f g : Nat → Bool} {n : Nat} (h : ∀ p, p < n → f p = g p) : lwA f n = lwA g n := by
  unfold lwA
  congr 1
  apply propext
  exact ⟨fun k p hp => (h p hp) ▸ k p hp, fun k p hp => (h p hp).symm ▸ k p hp⟩
theorem fst_congr {v : Int32} {f g : Nat → Bool} {n : Nat} (h : ∀ p, p < n → f p = g p) (k : x_fst v f n) : x_fst v g n := by
  rcases k with ⟨p, a, b, c, d⟩ | ⟨a, b⟩
  · exact Or.inl ⟨p, a, (h p a) ▸ b, fun q hq => (h q (by omega)) ▸ c q hq, d⟩
  · exact Or.inr ⟨fun q hq => (h q hq) ▸ a q hq, b⟩
