/-! ounces -/
def oz_v (c : Nat) (f : Nat → Nat) : Nat := if c = 0 then 0 else f (c - 1)
def oz_m (g : Int32) (n : Nat) (f : Nat → Nat) (p : Nat) : Nat := oz_v (pl_l g n p) f + oz_v (pl_r g n p) f
/-- one pass, up to a place -/
def oz_p (g : Int32) (n : Nat) (a : Nat → Nat) : Nat → Nat → Nat
  | 0, q => a q
  | i + 1, q => if q = i then min (oz_p g n a i i) (oz_m g n (oz_p g n a i) i) else oz_p g n a i q
theorem oz_at {g : Int32} {n : Nat} {a : Nat → Nat} {i q : Nat} : oz_p g n a (i + 1) q = if q = i then min (oz_p g n a i i) (oz_m g n (oz_p g n a i) i) else oz_p g n a i q := rfl
theorem oz_later {g : Int32} {n : Nat} {a : Nat → Nat} : ∀ i q, i ≤ q → oz_p g n a i q = a q := by
  intro i
  induction i with
  | zero => intro q _; rfl
  | succ i ih => intro q hq; unfold oz_p; rw [if_neg (by omega)]; exact ih q (by omega)
theorem oz_done {g : Int32} {n : Nat} {a : Nat → Nat} : ∀ i q, q < i → oz_p g n a i q = min (a q) (oz_m g n (oz_p g n a q) q) := by
  intro i
  induction i with
  | zero => intro q hq; omega
  | succ i ih =>
    intro q hq
    unfold oz_p
    by_cases e : q = i
    · rw [if_pos e, e, oz_later i i (Nat.le_refl _)]
    · rw [if_neg e]; exact ih q (by omega)
theorem oz_keep {g : Int32} {n : Nat} {a : Nat → Nat} {i q : Nat} (hq : q < i) : oz_p g n a i q = oz_p g n a (q + 1) q := by
  rw [oz_done i q hq, oz_done (q + 1) q (by omega)]
theorem oz_le {g : Int32} {n : Nat} {a : Nat → Nat} (i q : Nat) : oz_p g n a i q ≤ a q := by
  by_cases h : q < i
  · rw [oz_done i q h]; exact Nat.min_le_left _ _
  · rw [oz_later i q (by omega)]; exact Nat.le_refl _
/-- after one pass nothing has too much -/
theorem oz_fix {g : Int32} {n : Nat} {a : Nat → Nat} {p : Nat} (hp : p < n) : oz_p g n a n p ≤ oz_m g n (oz_p g n a n) p := by
  -- how the left neighbour's value at p's time stands to its last one
  have hb : oz_p g n a n p ≤ oz_m g n (oz_p g n a p) p := by
    rw [oz_done n p hp]; exact Nat.min_le_right _ _
  by_cases h1 : n = 1
  · -- alone
    have hp0 : p = 0 := by omega
    subst hp0
    subst h1
    unfold oz_m pl_l pl_r oz_v at hb ⊢
    by_cases hg : g = 0
    · simp only [hg, if_true] at hb ⊢
      simpa using hb
    · simp only [hg, if_false, if_true] at hb ⊢
      simp
  -- the one on the right
  have hr : oz_v (pl_r g n p) (oz_p g n a p) = oz_v (pl_r g n p) (oz_p g n a n) ∨ oz_p g n a n p ≤ oz_v (pl_r g n p) (oz_p g n a n) := by
    unfold pl_r oz_v
    by_cases e : p + 1 < n
    · rw [if_pos e, if_neg (by omega), if_neg (by omega), show p + 2 - 1 = p + 1 by omega, oz_later p (p + 1) (by omega), oz_done n (p + 1) e]
      by_cases e2 : a (p + 1) ≤ oz_m g n (oz_p g n a (p + 1)) (p + 1)
      · left; rw [Nat.min_eq_left e2]
      · right
        rw [Nat.min_eq_right (by omega)]
        unfold oz_m
        have : oz_v (pl_l g n (p + 1)) (oz_p g n a (p + 1)) = oz_p g n a n p := by
          have e3 : pl_l g n (p + 1) = p + 1 := if_neg (by omega)
          rw [e3]
          unfold oz_v
          rw [if_neg (by omega), show p + 1 - 1 = p by omega, oz_keep hp]
        omega
    · rw [if_neg e]
      by_cases hg : g = 0
      · rw [if_pos hg, if_pos rfl]; left; rw [if_pos rfl]
      · rw [if_neg hg, if_neg (by omega), if_neg (by omega)]
        left
        rw [show 1 - 1 = 0 from rfl, oz_keep (i := p) (q := 0) (by omega), oz_keep (i := n) (q := 0) (by omega)]
  -- the one on the left
  have hl : oz_v (pl_l g n p) (oz_p g n a p) = oz_v (pl_l g n p) (oz_p g n a n) ∨ oz_p g n a n p ≤ oz_v (pl_l g n p) (oz_p g n a n) := by
    unfold pl_l oz_v
    by_cases e : p = 0
    · rw [if_pos e]
      by_cases hg : g = 0
      · rw [if_pos hg]; left; rw [if_pos rfl, if_pos rfl]
      · rw [if_neg hg, if_neg (by omega), if_neg (by omega), e, oz_later 0 (n - 1) (by omega), oz_done n (n - 1) (by omega)]
        by_cases e2 : a (n - 1) ≤ oz_m g n (oz_p g n a (n - 1)) (n - 1)
        · left; rw [Nat.min_eq_left e2]
        · right
          rw [Nat.min_eq_right (by omega)]
          unfold oz_m
          have : oz_v (pl_r g n (n - 1)) (oz_p g n a (n - 1)) = oz_p g n a n 0 := by
            have e3 : pl_r g n (n - 1) = 1 := by unfold pl_r; rw [if_neg (by omega), if_neg hg]
            rw [e3]
            unfold oz_v
            rw [if_neg (by omega), show 1 - 1 = 0 from rfl, oz_keep (i := n - 1) (q := 0) (by omega), oz_keep (i := n) (q := 0) (by omega)]
          omega
    · rw [if_neg e, if_neg e, if_neg e, oz_keep (i := p) (q := p - 1) (by omega), oz_keep (i := n) (q := p - 1) (by omega)]
      left; rfl
  unfold oz_m at hb ⊢
  omega
theorem oz_b {f : Nat → Nat} {n c : Nat} (hf : ∀ q, q < n → f q ≤ 99) (hc : c ≤ n) : oz_v c f ≤ 99 := by
  unfold oz_v
  split
  · omega
  · exact hf _ (by omega)
-- the class
theorem x_beside {m : ej_M} {n p : Nat} {f : Nat → Nat} (hn : n ≤ 8) (hp : p < n) (hf : ∀ q, q < n → m.1 17 q = nI (f q)) : f_X8_lighterBeside (nI p) (nI n) (-1) m = some (nI (oz_v (pl_l (m.1 6 5) n p) f), m) ∧ f_X8_lighterBeside (nI p) (nI n) 1 m = some (nI (oz_v (pl_r (m.1 6 5) n p) f), m) := by
  have key : ∀ c, c ≤ n → ∀ st : Int32, f_X4_placeBeside (nI p) (nI n) st m = some (nI c - 1, m) → f_X8_lighterBeside (nI p) (nI n) st m = some (nI (oz_v c f), m) := fun c hc st h => by
    unfold f_X8_lighterBeside oz_v
    rw [h, o_bs]
    by_cases e : c = 0
    · rw [if_pos e, e, if_pos (show nI 0 - 1 = (-1 : Int32) by decide)]; rfl
    · rw [if_neg e, if_neg (fun q => e ((nI_cm1 (by omega)).mp q))]
      simp only
      rw [nI_m1 (by omega), p_at1 ar_17 (by omega), o_bs, hf (c - 1) (by omega)]
  exact ⟨key _ (pl_l_le hp) _ (x_left hp (by omega)), key _ (pl_r_le hp) _ (x_right hp (by omega))⟩
theorem nI_min {a c : Nat} (ha : a < 2 ^ 31) (hc : c < 2 ^ 31) : (if nI c < nI a then nI c else nI a) = nI (min a c) := by
  by_cases e : c < a
  · rw [if_pos ((nI_ltI hc ha).mpr e), Nat.min_eq_right (by omega)]
  · rw [if_neg (fun q => e ((nI_ltI hc ha).mp q)), Nat.min_eq_left (by omega)]
theorem x_knock {m : ej_M} {n : Nat} {ρ a : Nat → Nat} {g : Int32} (hn : n ≤ 8) (h4 : m.1 6 4 = nI n) (hg : m.1 6 5 = g) (h8 : ∀ q, q < n → m.1 8 q = nI (ρ q) ∧ ρ q < 9 ∧ m.1 7 (ρ q) = nI (a q) ∧ a q ≤ 99) :
    oj_wp (f_X8_knockOff m) fun q => oj_sm (fun c _ => c = 17) m q.2 ∧ (∀ p, p < n → q.2.1 17 p = nI (oz_p g n a n p)) ∧ q.1 = (if lwA (fun p => decide (1 ≤ oz_p g n a n p)) n = true then 1 else 0) := by
  unfold f_X8_knockOff f_X8_knockOff_L10
  rw [h4]
  refine wp_loop (fun i (s : Int32 × ej_M) => s.1 = nI i ∧ oj_sm (fun c _ => c = 17) m s.2 ∧ ∀ q, q < i → s.2.1 17 q = nI (a q)) n (by unfold oj_FU; omega) (fun i s hi hI => ?_) (fun s hI => ?_) (i0 := 0) (by omega) ⟨rfl, sm_refl, fun q hq => absurd hq (Nat.not_lt_zero _)⟩
  · obtain ⟨v, m'⟩ := s
    obtain ⟨rfl, i1, i2⟩ := hI
    simp only at i1 i2 ⊢
    obtain ⟨b1, b2, b3, b4⟩ := h8 i hi
    unfold f_X8_knockOff_L10b
    rw [if_neg (fun q => by have := (nI_leI (by omega) (by omega)).mp q; omega), p_at1 ar_8 (by omega), o_bs, i1.2 8 i (by omega), b1]
    simp only
    rw [x_weightN b2, o_bs, i1.2 7 _ (by omega), b3]
    simp only
    rw [p_lay1 ar_17 (by omega), o_bs, nI_1]
    refine wp_inl ⟨rfl, sm_trans i1 (sm_a fun j => rfl), fun q hq => ?_⟩
    simp only
    rw [oj_row_s]
    unfold upd
    by_cases e : q = i
    · rw [if_pos e, e]
    · rw [if_neg e]; exact i2 q (by omega)
  · obtain ⟨v, m1⟩ := s
    obtain ⟨rfl, i1, i2⟩ := hI
    simp only at i1 i2 ⊢
    unfold f_X8_knockOff_L10b
    rw [if_pos (Int32.le_refl _)]
    refine wp_map ?_
    unfold f_X8_knockOff_L49
    refine wp_loop (fun i (s : Int32 × ej_M) => s.1 = nI i ∧ oj_sm (fun c _ => c = 17) m s.2 ∧ ∀ q, q < n → s.2.1 17 q = nI (oz_p g n a i q)) n (by unfold oj_FU; omega) (fun i s hi hI => ?_) (fun s hI => ?_) (i0 := 0) (by omega) ⟨rfl, i1, i2⟩
    · obtain ⟨v, m'⟩ := s
      obtain ⟨rfl, j1, j2⟩ := hI
      simp only at j1 j2 ⊢
      unfold f_X8_knockOff_L49b
      have hg' : m'.1 6 5 = g := (j1.2 6 5 (by omega)).trans hg
      obtain ⟨bl, br⟩ := x_beside hn hi j2
      rw [hg'] at bl br
      have hf : ∀ q, q < n → oz_p g n a i q ≤ 99 := fun q hq => Nat.le_trans (oz_le i q) (h8 q hq).2.2.2
      have o1 := oz_b hf (pl_l_le (g := g) hi)
      have o2 := oz_b hf (pl_r_le (g := g) hi)
      rw [if_neg (fun q => by have := (nI_leI (by omega) (by omega)).mp q; omega), bl, o_bs]
      simp only
      rw [br, o_bs]
      simp only
      rw [p_at1 ar_17 (by omega), o_bs, j2 i hi]
      simp only
      rw [nI_add, nI_min (by have := hf i hi; omega) (by omega), p_lay1 ar_17 (by omega), o_bs, nI_1]
      refine wp_inl ⟨rfl, sm_trans j1 (sm_a fun j => rfl), fun q hq => ?_⟩
      simp only
      rw [oj_row_s]
      rw [oz_at]
      unfold upd
      by_cases e : q = i
      · rw [if_pos e, if_pos e]; rfl
      · rw [if_neg e, if_neg e]; exact j2 q hq
    · obtain ⟨v, m2⟩ := s
      obtain ⟨rfl, j1, j2⟩ := hI
      simp only at j1 j2 ⊢
      unfold f_X8_knockOff_L49b
      rw [if_pos (Int32.le_refl _)]
      refine wp_map ?_
      unfold f_X8_knockOff_L98
      refine wp_loop (fun i (s : Int32 × ej_M) => s.1 = nI i ∧ s.2 = m2 ∧ lwA (fun p => decide (1 ≤ oz_p g n a n p)) i = true) n (by unfold oj_FU; omega) (fun i s hi hI => ?_) (fun s hI => ?_) (i0 := 0) (by omega) ⟨rfl, rfl, decide_eq_true fun p hp => absurd hp (Nat.not_lt_zero _)⟩
      · obtain ⟨v, m'⟩ := s
        obtain ⟨rfl, rfl, k3⟩ := hI
        simp only at k3 ⊢
        unfold f_X8_knockOff_L98b
        have hf : oz_p g n a n i ≤ 99 := Nat.le_trans (oz_le n i) (h8 i hi).2.2.2
        rw [if_neg (fun q => by have := (nI_leI (by omega) (by omega)).mp q; omega), p_at1 ar_17 (by omega), o_bs, j2 i hi]
        by_cases e : 1 ≤ oz_p g n a n i
        · rw [if_pos (show 1 ≤ nI (oz_p g n a n i) from (nI_leI (a := 1) (by decide) (by omega)).mpr e), nI_1]
          exact wp_inl ⟨rfl, rfl, by rw [lwA_succ, k3]; simpa using e⟩
        · rw [if_neg (show ¬ 1 ≤ nI (oz_p g n a n i) from fun q => e ((nI_leI (a := 1) (by decide) (by omega)).mp q))]
          refine wp_inr ⟨j1, j2, ?_⟩
          rw [if_neg]
          intro q
          have := (of_decide_eq_true (p := ∀ p, p < n → (fun p => decide (1 ≤ oz_p g n a n p)) p = true) q) i hi
          exact e (of_decide_eq_true this)
      · obtain ⟨v, m'⟩ := s
        obtain ⟨rfl, rfl, k3⟩ := hI
        simp only at k3 ⊢
        unfold f_X8_knockOff_L98b
        rw [if_pos (Int32.le_refl _)]
        exact wp_inr ⟨j1, j2, by rw [if_pos k3]⟩
def oz_s (a f : Nat → Nat) : Nat → Int32
  | 0 => 0
  | i + 1 => oz_s a f i + (nI (a i) - nI (f i))
theorem x_knocked {m : ej_M} {n : Nat} {ρ a f : Nat → Nat} (hn : n ≤ 8) (h4 : m.1 6 4 = nI n) (h8 : ∀ q, q < n → m.1 8 q = nI (ρ q) ∧ ρ q < 9 ∧ m.1 7 (ρ q) = nI (a q) ∧ m.1 17 q = nI (f q)) : f_X8_knockedOff m = some (oz_s a f n, m) := by
  unfold f_X8_knockedOff f_X8_knockedOff_L4
  refine wp_get (wp_loop (fun i (s : Int32 × Int32 × ej_M) => s = (oz_s a f i, nI i, m)) n (by unfold oj_FU; omega) (fun i s hi hI => ?_) (fun s hI => ?_) (i0 := 0) (by omega) rfl)
  · rw [hI]
    obtain ⟨b1, b2, b3, b4⟩ := h8 i hi
    simp only
    unfold f_X8_knockedOff_L4b
    rw [h4, if_neg (fun q => by have := (nI_leI (by omega) (by omega)).mp q; omega), p_at1 ar_8 (by omega), o_bs, b1]
    simp only
    rw [x_weightN b2, o_bs, b3]
    simp only
    rw [p_at1 ar_17 (by omega), o_bs, b4, nI_1]
    exact wp_inl rfl
  · rw [hI]
    simp only
    unfold f_X8_knockedOff_L4b
    rw [h4, if_pos (Int32.le_refl _)]
    exact wp_inr rfl
-- the reference
theorem m_lessAt {m : ej_M} {n p : Nat} {f : Nat → Nat} (hn : n ≤ 8) (hp : p < n) (h4 : m.1 41 4 = nI n) (hf : ∀ q, q < n → m.1 58 q = nI (f q)) : f_X11_lessAt (nI p - 1) m = some (nI (oz_v (pl_l (m.1 41 5) n p) f), m) ∧ f_X11_lessAt (nI p + 1) m = some (nI (oz_v (pl_r (m.1 41 5) n p) f), m) := by
  have inn : ∀ q, q < n → f_X11_lessAt (nI q) m = some (nI (f q), m) := fun q hq => by
    unfold f_X11_lessAt
    rw [h4, m_inY hq (by omega), o_bs, if_neg i10]
    simp only
    rw [oj_ar_ld ar_58 (by omega), o_bs, hf q hq]
  constructor
  · by_cases h0 : p = 0
    · subst h0
      unfold f_X11_lessAt pl_l
      rw [p_in0 (fun q => absurd q.1 (by decide)), o_bs, if_pos rfl, if_pos rfl]
      simp only
      by_cases hg : m.1 41 5 = 0
      · rw [if_pos hg, if_pos hg]; rfl
      · rw [if_neg hg, if_neg hg, if_neg (by decide), h4, nI_m1 (by omega), oj_ar_ld ar_58 (by omega), o_bs, hf (n - 1) (by omega)]
        unfold oz_v
        rw [if_neg (by omega)]
    · rw [nI_m1 (by omega), inn (p - 1) (by omega)]
      unfold pl_l oz_v
      rw [if_neg h0, if_neg h0]
  · rw [nI_1]
    by_cases hl : p + 1 < n
    · rw [inn _ hl]
      unfold pl_r oz_v
      rw [if_pos hl, if_neg (by omega)]
      rfl
    · unfold f_X11_lessAt pl_r
      rw [p_in0 (fun q => by rw [h4, nI_m1 (by omega)] at q; have := (nI_leI (by omega) (by omega)).mp q.2; omega), o_bs, if_pos rfl, if_neg hl]
      simp only
      by_cases hg : m.1 41 5 = 0
      · rw [if_pos hg, if_pos hg]; rfl
      · rw [if_neg hg, if_neg hg, if_pos (nI_0le (by omega)), show oj_ld 0 m 58 0 = some (m.1 58 0) from oj_ar_ld (k := 0) ar_58 (by decide) m, o_bs, hf 0 (by omega)]
        rfl
/-- one pass of the reference over f -/
theorem m_pass {m : ej_M} {n : Nat} {f : Nat → Nat} {g : Int32} (hn : n ≤ 8) (h4 : m.1 41 4 = nI n) (hg : m.1 41 5 = g) (hf : ∀ q, q < n → m.1 58 q = nI (f q) ∧ 1 ≤ f q ∧ f q ≤ 99) :
    oj_wp (f_X11_findLess_L43 0 0 m) (oj_k (fun s => oj_sm (fun c _ => c = 58) m s.2 ∧ (∀ p, p < n → s.2.1 58 p = nI (oz_p g n f n p)) ∧ lwA (fun p => decide (1 ≤ oz_p g n f n p)) n = true ∧ (s.1 = 0 ∨ s.1 = 1) ∧ ((∀ p, p < n → f p ≤ oz_m g n (oz_p g n f p) p) → s.1 = 0)) fun e => e.1 = 0 ∧ oj_sm (fun c _ => c = 58) m e.2 ∧ ¬ lwA (fun p => decide (1 ≤ oz_p g n f n p)) n = true) := by
  unfold f_X11_findLess_L43
  refine wp_loop (fun i (s : Int32 × Int32 × ej_M) => s.2.1 = nI i ∧ oj_sm (fun c _ => c = 58) m s.2.2 ∧ (∀ q, q < n → s.2.2.1 58 q = nI (oz_p g n f i q)) ∧ lwA (fun p => decide (1 ≤ oz_p g n f n p)) i = true ∧ (s.1 = 0 ∨ s.1 = 1) ∧ ((∀ p, p < n → f p ≤ oz_m g n (oz_p g n f p) p) → s.1 = 0)) n (by unfold oj_FU; omega) (fun i s hi hI => ?_) (fun s hI => ?_) (i0 := 0) (by omega) ⟨rfl, sm_refl, fun q hq => (hf q hq).1, decide_eq_true fun p hp => absurd hp (Nat.not_lt_zero _), Or.inl rfl, fun _ => rfl⟩
  · obtain ⟨v, v', m'⟩ := s
    obtain ⟨rfl, i1, i2, i3, i4, i5⟩ := hI
    simp only at i1 i2 i3 i4 i5 ⊢
    have e4 : m'.1 41 4 = nI n := (i1.2 41 4 (by omega)).trans h4
    have eg : m'.1 41 5 = g := (i1.2 41 5 (by omega)).trans hg
    obtain ⟨bl, br⟩ := m_lessAt hn hi e4 i2
    rw [eg] at bl br
    have hb : ∀ q, q < n → oz_p g n f i q ≤ 99 := fun q hq => Nat.le_trans (oz_le i q) (hf q hq).2.2
    have o1 := oz_b hb (pl_l_le (g := g) hi)
    have o2 := oz_b hb (pl_r_le (g := g) hi)
    unfold f_X11_findLess_L43b
    rw [e4, if_neg (fun q => by have := (nI_leI (by omega) (by omega)).mp q; omega), bl, o_bs]
    simp only
    rw [br, o_bs]
    simp only
    rw [oj_ar_ld ar_58 (by omega), o_bs, i2 i hi, nI_add, oz_later i i (Nat.le_refl _)]
    have hfi := hf i hi
    have hdone : oz_p g n f n i = min (f i) (oz_m g n (oz_p g n f i) i) := oz_done n i hi
    unfold oz_m at hdone
    by_cases e : oz_v (pl_l g n i) (oz_p g n f i) + oz_v (pl_r g n i) (oz_p g n f i) < f i
    · rw [if_pos ((nI_ltI (by omega) (by omega)).mpr e)]
      rw [Nat.min_eq_right (by omega)] at hdone
      by_cases e1 : 1 ≤ oz_v (pl_l g n i) (oz_p g n f i) + oz_v (pl_r g n i) (oz_p g n f i)
      · rw [if_pos (show 1 ≤ nI (oz_v (pl_l g n i) (oz_p g n f i) + oz_v (pl_r g n i) (oz_p g n f i)) from (nI_leI (a := 1) (by decide) (by omega)).mpr e1), oj_ar_st ar_58 (by omega), o_bs, nI_1]
        refine wp_inl ⟨rfl, sm_trans i1 (sm_a fun j => rfl), fun q hq => ?_, by rw [lwA_succ, i3, hdone]; simpa using e1, Or.inr rfl, fun h => ?_⟩
        · simp only
          rw [oj_row_s]
          unfold upd oz_p
          by_cases e2 : q = i
          · rw [if_pos e2, if_pos e2, oz_later i i (Nat.le_refl _)]
            unfold oz_m
            rw [Nat.min_eq_right (by omega)]
          · rw [if_neg e2, if_neg e2]; exact i2 q hq
        · have := h i hi
          unfold oz_m at this
          omega
      · rw [if_neg (show ¬ 1 ≤ nI (oz_v (pl_l g n i) (oz_p g n f i) + oz_v (pl_r g n i) (oz_p g n f i)) from fun q => e1 ((nI_leI (a := 1) (by decide) (by omega)).mp q))]
        refine wp_inr ⟨rfl, i1, fun q => ?_⟩
        have := (of_decide_eq_true (p := ∀ p, p < n → (fun p => decide (1 ≤ oz_p g n f n p)) p = true) q) i hi
        have := of_decide_eq_true this
        omega
    · rw [if_neg (fun q => e ((nI_ltI (by omega) (by omega)).mp q)), nI_1]
      rw [Nat.min_eq_left (by omega)] at hdone
      refine wp_inl ⟨rfl, i1, fun q hq => ?_, by rw [lwA_succ, i3, hdone]; simpa using hfi.2.1, i4, i5⟩
      simp only
      unfold oz_p
      by_cases e2 : q = i
      · rw [if_pos e2, oz_later i i (Nat.le_refl _)]
        unfold oz_m
        rw [Nat.min_eq_left (by omega), e2, i2 i hi, oz_later i i (Nat.le_refl _)]
      · rw [if_neg e2]; exact i2 q hq
  · obtain ⟨v, v', m'⟩ := s
    obtain ⟨rfl, i1, i2, i3, i4, i5⟩ := hI
    simp only at i1 i2 i3 i4 i5 ⊢
    unfold f_X11_findLess_L43b
    rw [i1.2 41 4 (by omega), h4, if_pos (Int32.le_refl _)]
    exact wp_inr ⟨i1, i2, i3, i4, i5⟩
theorem oz_same {g : Int32} {n : Nat} {f : Nat → Nat} (h : ∀ p, p < n → f p ≤ oz_m g n f p) : ∀ i, i ≤ n → ∀ q, oz_p g n f i q = f q := by
  intro i
  induction i with
  | zero => intro _ q; rfl
  | succ i ih =>
    intro hi q
    have ihf : oz_p g n f i = f := funext fun q => ih (by omega) q
    unfold oz_p
    rw [ihf]
    by_cases e : q = i
    · rw [if_pos e, e, Nat.min_eq_left (h i (by omega))]
    · rw [if_neg e]
theorem m_find {m : ej_M} {n N : Nat} {ρ a : Nat → Nat} {g : Int32} (hn : n ≤ 8) (h4 : m.1 41 4 = nI n) (hg : m.1 41 5 = g) (h8 : ∀ q, q < n → m.1 43 q = nI (ρ q) ∧ ρ q < 9 ∧ m.1 42 (ρ q) = nI (a q) ∧ 1 ≤ a q ∧ a q ≤ 99) :
    oj_wp (f_X11_findLess m) fun q => oj_sm (fun c _ => c = 58) m q.2 ∧ q.1 = (if lwA (fun p => decide (1 ≤ oz_p g n a n p)) n = true then 1 else 0) ∧ (lwA (fun p => decide (1 ≤ oz_p g n a n p)) n = true → ∀ p, p < n → q.2.1 58 p = nI (oz_p g n a n p)) := by
  unfold f_X11_findLess f_X11_findLess_L2
  refine wp_loop (fun i (s : Int32 × ej_M) => s.1 = nI i ∧ oj_sm (fun c _ => c = 58) m s.2 ∧ ∀ q, q < i → s.2.1 58 q = nI (a q)) n (by unfold oj_FU; omega) (fun i s hi hI => ?_) (fun s hI => ?_) (i0 := 0) (by omega) ⟨rfl, sm_refl, fun q hq => absurd hq (Nat.not_lt_zero _)⟩
  · obtain ⟨v, m'⟩ := s
    obtain ⟨rfl, i1, i2⟩ := hI
    simp only at i1 i2 ⊢
    obtain ⟨b1, b2, b3, b4⟩ := h8 i hi
    unfold f_X11_findLess_L2b
    rw [i1.2 41 4 (by omega), h4, if_neg (fun q => by have := (nI_leI (by omega) (by omega)).mp q; omega), oj_ar_ld ar_43 (by omega), o_bs, i1.2 43 i (by omega), b1, oj_ar_ld ar_42 b2, o_bs, i1.2 42 _ (by omega), b3, oj_ar_st ar_58 (by omega), o_bs, nI_1]
    refine wp_inl ⟨rfl, sm_trans i1 (sm_a fun j => rfl), fun q hq => ?_⟩
    simp only
    rw [oj_row_s]
    unfold upd
    by_cases e : q = i
    · rw [if_pos e, e]
    · rw [if_neg e]; exact i2 q (by omega)
  · obtain ⟨v, m1⟩ := s
    obtain ⟨rfl, i1, i2⟩ := hI
    simp only at i1 i2 ⊢
    unfold f_X11_findLess_L2b
    rw [i1.2 41 4 (by omega), h4, if_pos (Int32.le_refl _)]
    refine wp_map ?_
    unfold f_X11_findLess_L35
    -- the first pass
    rw [show oj_FU = 99997 + 1 + 1 + 1 from rfl]
    refine wp_loop1 ?_
    simp only
    unfold f_X11_findLess_L35b
    rw [if_neg i10]
    refine wp_mono (m_pass hn ((i1.2 41 4 (by omega)).trans h4) ((i1.2 41 5 (by omega)).trans hg) fun q hq => ⟨i2 q hq, (h8 q hq).2.2.2⟩) fun x hx => ?_
    rcases x with s | e
    · obtain ⟨v, m2⟩ := s
      obtain ⟨x1, x2, x3, x4, x5⟩ := hx
      simp only at x1 x2 x3 x4 x5
      have hs2 := sm_trans i1 x1
      refine wp_loop1 ?_
      simp only
      rcases x4 with rfl | rfl
      · rw [if_pos rfl]
        exact wp_inr ⟨hs2, by rw [if_pos x3], fun _ => x2⟩
      · rw [if_neg i10]
        have hall : ∀ p, p < n → 1 ≤ oz_p g n a n p := fun p hp => of_decide_eq_true ((of_decide_eq_true (p := ∀ p, p < n → (fun p => decide (1 ≤ oz_p g n a n p)) p = true) x3) p hp)
        refine wp_mono (m_pass (f := oz_p g n a n) hn ((hs2.2 41 4 (by omega)).trans h4) ((hs2.2 41 5 (by omega)).trans hg) fun q hq => ⟨x2 q hq, hall q hq, Nat.le_trans (oz_le n q) (h8 q hq).2.2.2.2⟩) fun y hy => ?_
        have hsame := oz_same (g := g) (n := n) (f := oz_p g n a n) (fun p hp => oz_fix hp)
        rcases y with s | e
        · obtain ⟨v, m3⟩ := s
          obtain ⟨y1, y2, y3, y4, y5⟩ := hy
          simp only at y1 y2 y3 y4 y5
          have hv : v = 0 := y5 fun p hp => by
            rw [show oz_p g n (oz_p g n a n) p = oz_p g n a n from funext fun q => hsame p (by omega) q]
            exact oz_fix hp
          refine wp_loop1 ?_
          simp only
          rw [if_pos hv]
          exact wp_inr ⟨sm_trans hs2 y1, by rw [if_pos x3], fun _ p hp => by rw [y2 p hp, hsame n (Nat.le_refl _) p]⟩
        · obtain ⟨e1, e2, e3⟩ := hy
          refine absurd ?_ e3
          rw [lwA_congr (g := fun p => decide (1 ≤ oz_p g n a n p)) fun p hp => by simp only [hsame n (Nat.le_refl _) p]]
          exact x3
    · obtain ⟨e1, e2, e3⟩ := hx
      exact ⟨sm_trans i1 e2, by rw [e1, if_neg e3], fun h => absurd h e3⟩
theorem m_ozs {m : ej_M} {n : Nat} {ρ a f : Nat → Nat} (hn : n ≤ 8) (h4 : m.1 41 4 = nI n) (h8 : ∀ q, q < n → m.1 43 q = nI (ρ q) ∧ ρ q < 9 ∧ m.1 42 (ρ q) = nI (a q) ∧ m.1 58 q = nI (f q)) : f_X11_ounces_L41 0 0 m = some (oz_s a f n, m) := by
  unfold f_X11_ounces_L41
  refine wp_get (wp_loop (fun i (s : Int32 × Int32 × ej_M) => s = (oz_s a f i, nI i, m)) n (by unfold oj_FU; omega) (fun i s hi hI => ?_) (fun s hI => ?_) (i0 := 0) (by omega) rfl)
  · rw [hI]
    obtain ⟨b1, b2, b3, b4⟩ := h8 i hi
    simp only
    unfold f_X11_ounces_L41b
    rw [h4, if_neg (fun q => by have := (nI_leI (by omega) (by omega)).mp q; omega), oj_ar_ld ar_43 (by omega), o_bs, b1, oj_ar_ld ar_42 b2, o_bs, b3, oj_ar_ld ar_58 (by omega), o_bs, b4, nI_1]
    exact wp_inl rfl
  · rw [hI]
    simp only
    unfold f_X11_ounces_L41b
    rw [h4, if_pos (Int32.le_refl _)]
    exact wp_inr rfl
theorem op_ounces (v : Int32) : OP (f_X10_ounces v) (f_X11_ounces v) := by
  refine OP_ask fun L xs n k ρ P nb b m hI hC hb => ?_
  obtain ⟨h1, h2, h3, h4, h5, h6, h7, h8, h9, h10, h11, h12, h13, h14, h15⟩ := id hI.1
  have hk8 : k ≤ 8 := by omega
  by_cases hv : v = -1 ∨ ∃ p, p < k ∧ v = nI p
  · have v1 : ¬ v < -1 := by
      rcases hv with rfl | ⟨p, hp, rfl⟩
      · decide
      · exact fun q => absurd (Int32.lt_trans q (by decide)) (nI_pos (n := p) (by omega))
    have v2 : v < nI k := by
      rcases hv with rfl | ⟨p, hp, rfl⟩
      · exact Int32.lt_of_lt_of_le (by decide) (nI_0le (by omega))
      · exact i_lt hp (by omega)
    have v3 : -1 ≤ v := Int32.not_lt.mp v1
    have v4 : v ≤ nI k - 1 := by
      rcases hv with rfl | ⟨p, hp, rfl⟩
      · by_cases e : k = 0
        · subst e; decide
        · rw [nI_m1 (by omega)]; exact Int32.le_trans (by decide) (nI_0le (by omega))
      · rw [nI_m1 (by omega)]; exact (nI_leI (by omega) (by omega)).mpr (by omega)
    -- the weights
    have hw : ∃ a : Nat → Nat, ∀ q, q < k → m.1 7 (ρ q) = nI (a q) ∧ 1 ≤ a q ∧ a q ≤ 99 := by
      refine ⟨fun q => (m.1 7 (ρ q)).toNatClampNeg, fun q hq => ?_⟩
      obtain ⟨_, w, w1, w2, w3⟩ := h7 _ (h8 q hq).2.2
      simp only
      rw [w3, nI_clamp (by omega)]
      exact ⟨rfl, w1, w2⟩
    obtain ⟨a, ha⟩ := hw
    have hx8 : ∀ q, q < k → m.1 8 q = nI (ρ q) ∧ ρ q < 9 ∧ m.1 7 (ρ q) = nI (a q) ∧ a q ≤ 99 := fun q hq => ⟨(h8 q hq).1, by have := (h8 q hq).2.2; omega, (ha q hq).1, (ha q hq).2.2⟩
    have hXr : f_X10_ounces v m = (f_X8_knockOff m).bind fun q1 => if q1.1 = 0 then some ((-2), q1.2) else if v = (-1) then (f_X8_knockedOff q1.2).bind fun q3 => some (q3.1, q3.2) else (f_X10_at 17 v q1.2).bind fun q2 => some (q2.1, q2.2) := by
      unfold f_X10_ounces
      rw [h5, if_neg v1, if_pos v2]
    rw [hXr]
    refine wp_bind (wp_mono (x_knock (ρ := ρ) (a := a) hk8 h5 rfl hx8) fun q hq => ?_)
    obtain ⟨q1, q2, q3⟩ := hq
    have hsX : oj_sm SX m q.2 := sm_mono q1 fun c j e => by unfold SX; omega
    have hCq : CB P (b + oST) q.2 := CB_fr q1 (CB_step hC) (fun i => by omega) (by omega) (by omega) (fun i hi => by omega)
    have hM : ∀ m', IV L xs n k ρ P nb m' → oj_sm SX m m' → oj_wp (f_X11_ounces v m') fun r => r.1 = (if lwA (fun p => decide (1 ≤ oz_p (m.1 6 5) k a k p)) k = true then (if v = -1 then oz_s a (oz_p (m.1 6 5) k a k) k else nI (oz_p (m.1 6 5) k a k v.toNatClampNeg)) else -2) ∧ oj_sm SM m' r.2 := fun m' hI' hs => by
      obtain ⟨g1, g2, g3, g4, g5, g6, g7, g8, g9, g10, g11, g12, g13, g14, g15⟩ := id hI'.1
      have hm8 : ∀ q, q < k → m'.1 43 q = nI (ρ q) ∧ ρ q < 9 ∧ m'.1 42 (ρ q) = nI (a q) ∧ 1 ≤ a q ∧ a q ≤ 99 := fun q hq => ⟨(g8 q hq).2.1, by have := (g8 q hq).2.2; omega, by
        have hn := (g8 q hq).2.2
        rw [(g7 _ hn).1, hs.2 7 _ (by unfold SX; omega)]; exact (ha q hq).1, (ha q hq).2⟩
      unfold f_X11_ounces
      rw [g6, p_in1 v3 v4, o_bs, if_neg i10]
      refine wp_bind (wp_mono (m_find (N := 8) (ρ := ρ) (a := a) (g := m.1 6 5) hk8 g6 (by rw [g10, hs.2 6 5 (by unfold SX; omega)]) hm8) fun r hr => ?_)
      obtain ⟨r1, r2, r3⟩ := hr
      have hsM : oj_sm SM m' r.2 := sm_mono r1 fun c j e => by unfold SM; omega
      by_cases hl : lwA (fun p => decide (1 ≤ oz_p (m.1 6 5) k a k p)) k = true
      · rw [r2, if_pos hl, if_neg i10, if_pos hl]
        rcases hv with rfl | ⟨p, hp, rfl⟩
        · rw [if_pos (by decide), if_pos rfl, m_ozs (ρ := ρ) (a := a) (f := oz_p (m.1 6 5) k a k) hk8 ((r1.2 41 4 (by omega)).trans g6) (fun q hq => ⟨(r1.2 43 q (by omega)).trans (hm8 q hq).1, (hm8 q hq).2.1, (r1.2 42 _ (by omega)).trans (hm8 q hq).2.2.1, r3 hl q hq⟩)]
          exact wp_some ⟨rfl, hsM⟩
        · rw [if_neg (nI_pos (by omega)), if_neg (nI_neq1 (by omega)), nI_clamp (by omega), oj_ar_ld ar_58 (by omega), o_bs, r3 hl p hp]
          exact wp_some ⟨rfl, hsM⟩
      · rw [r2, if_neg hl, if_pos rfl, if_neg hl]
        exact wp_some ⟨rfl, hsM⟩
    by_cases hl : lwA (fun p => decide (1 ≤ oz_p (m.1 6 5) k a k p)) k = true
    · rw [q3, if_pos hl, if_neg i10]
      simp only [if_pos hl] at hM
      rcases hv with rfl | ⟨p, hp, rfl⟩
      · rw [if_pos rfl, x_knocked (ρ := ρ) (a := a) (f := oz_p (m.1 6 5) k a k) hk8 ((q1.2 6 4 (by omega)).trans h5) (fun q' hq' => ⟨(q1.2 8 q' (by omega)).trans (hx8 q' hq').1, (hx8 q' hq').2.1, (q1.2 7 _ (by omega)).trans (hx8 q' hq').2.2.1, q2 q' hq'⟩), o_bs]
        exact wp_some ⟨hsX, hCq, fun m' hI' hs => wp_mono (hM m' hI' hs) fun r hr => ⟨by rw [hr.1, if_pos rfl], hr.2⟩⟩
      · rw [if_neg (nI_neq1 (by omega)), p_at1 ar_17 (by omega), o_bs]
        exact wp_some ⟨hsX, hCq, fun m' hI' hs => wp_mono (hM m' hI' hs) fun r hr => ⟨by rw [hr.1, if_neg (nI_neq1 (by omega)), nI_clamp (by omega)]; exact q2 p hp, hr.2⟩⟩
    · rw [q3, if_neg hl, if_pos rfl]
      simp only [if_neg hl] at hM
      exact wp_some ⟨hsX, hCq, fun m' hI' hs => wp_mono (hM m' hI' hs) fun r hr => ⟨hr.1.symm, hr.2⟩⟩
  · have h1' : v < -1 ∨ nI k ≤ v := by
      by_cases a : v < -1
      · exact Or.inl a
      · refine Or.inr ?_
        by_cases c : v < 0
        · exfalso
          refine hv (Or.inl ?_)
          rw [Int32.lt_iff_toInt_lt] at a c
          apply Int32.toInt_inj.mp
          rw [show (-1 : Int32).toInt = -1 by decide] at a ⊢
          rw [show (0 : Int32).toInt = 0 by decide] at c
          omega
        · obtain ⟨j, hj, rfl⟩ := nI_of c
          refine (nI_leI (by omega) hj).mpr ?_
          by_cases q : k ≤ j
          · exact q
          · exact absurd (Or.inr ⟨j, by omega, rfl⟩) hv
    have hx : f_X10_ounces v m = some (-1, m) := by
      unfold f_X10_ounces
      by_cases a : v < -1
      · rw [if_pos a]
      · rw [if_neg a, h5, if_neg (Int32.not_lt.mpr (h1'.resolve_left a))]
    rw [hx]
    refine wp_some ⟨sm_refl, CB_step hC, fun m' hI' hs => ?_⟩
    have hm : f_X11_ounces v m' = some (-1, m') := by
      unfold f_X11_ounces
      rw [hI'.1.2.2.2.2.2.1, p_in0, o_bs, if_pos rfl]
      rintro ⟨a, c⟩
      rcases h1' with q | q
      · exact absurd a (Int32.not_le.mpr q)
      · by_cases e : k = 0
        · subst e
          exact absurd (Int32.le_trans q c) (by decide)
        · rw [nI_m1 (by omega)] at c
          have := (nI_leI (by omega) (by omega)).mp (Int32.le_trans q c)
          omega
    rw [hm]
    exact wp_some ⟨rfl, sm_refl⟩
