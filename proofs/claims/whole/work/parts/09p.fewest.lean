/-! fewest -/
/-- the values told are stones of the row, each once -/
def gdv (k : Nat) (ρ : Nat → Nat) (v : Nat → Int32) (i : Nat) : Prop := (∃ p, p < k ∧ v i = nI (ρ p)) ∧ ∀ j, j < i → v j ≠ v i
theorem gdv_tau {v : Nat → Int32} : ∀ k, (∀ i, i < k → ∃ t, t < 8 ∧ v i = nI t) → ∃ τ : Nat → Nat, ∀ i, i < k → v i = nI (τ i) ∧ τ i < 8 := by
  intro k
  induction k with
  | zero => intro _; exact ⟨fun _ => 0, fun i h => absurd h (Nat.not_lt_zero _)⟩
  | succ k ih =>
    intro h
    obtain ⟨τ, hτ⟩ := ih fun i hi => h i (by omega)
    obtain ⟨t, t1, t2⟩ := h k (by omega)
    refine ⟨upN τ k t, fun i hi => ?_⟩
    unfold upN
    by_cases e : i = k
    · rw [if_pos e, e]; exact ⟨t2, t1⟩
    · rw [if_neg e]; exact hτ i (by omega)
theorem x_toldL {n k s : Nat} {ρ : Nat → Nat} {U : Nat} {m : ej_M} (hs : s < 6) (hn : n ≤ 8) (hk : k ≤ 6) (h2 : m.1 6 2 = nI n) (hρ : ∀ q, q < k → ρ q < n) (hU : U < 256) (hUs : ∀ s, s < 8 → (sb U s = true ↔ ∃ p, p < k ∧ ρ p = s)) :
    oj_wp (f_X9_isTold_L37 (nI s) (nI k) (nI U) 0 m) fun q => oj_sm (fun a _ => a = 29) m q.2 ∧ ((q.1 = 0 ∧ ∃ i, i < k ∧ ¬ gdv k ρ (fun i => Int64.toInt32 (m.2 40 (60 * s + i))) i) ∨ (q.1 = 1 ∧ ∀ i, i < k → gdv k ρ (fun i => Int64.toInt32 (m.2 40 (60 * s + i))) i ∧ q.2.1 29 i = Int64.toInt32 (m.2 40 (60 * s + i)))) := by
  unfold f_X9_isTold_L37
  refine wp_loop (fun i (x : Int32 × Int32 × ej_M) => (∃ A, x.1 = nI A ∧ A < 256 ∧ ∀ t, t < 8 → (sb A t = true ↔ (∃ p, p < k ∧ ρ p = t) ∧ ∀ j, j < i → Int64.toInt32 (m.2 40 (60 * s + j)) ≠ nI t)) ∧ x.2.1 = nI i ∧ oj_sm (fun a _ => a = 29) m x.2.2 ∧ ∀ i', i' < i → gdv k ρ (fun i => Int64.toInt32 (m.2 40 (60 * s + i))) i' ∧ x.2.2.1 29 i' = Int64.toInt32 (m.2 40 (60 * s + i'))) k (by unfold oj_FU; omega) (fun i x hi hI => ?_) (fun x hI => ?_) (i0 := 0) (by omega) ⟨⟨U, rfl, hU, fun t ht => ⟨fun z => ⟨(hUs t ht).mp z, fun j hj => absurd hj (Nat.not_lt_zero _)⟩, fun z => (hUs t ht).mpr z.1⟩⟩, rfl, sm_refl, fun j hj => absurd hj (Nat.not_lt_zero _)⟩
  · obtain ⟨x1, x2, m1⟩ := x
    obtain ⟨⟨A, rfl, a1, a2⟩, rfl, i1, i2⟩ := hI
    simp only at i1 i2 ⊢
    unfold f_X9_isTold_L37b
    rw [if_neg (fun q => by have := (nI_leI (by omega) (by omega)).mp q; omega), x_valueAt hs (by omega), o_bs, i1.1]
    simp only
    rcases r_cases (Int64.toInt32 (m.2 40 (60 * s + i))) n with ⟨t, ht, e⟩ | hN
    · rw [e, x_hasY ((i1.2 6 2 (by omega)).trans h2) (by omega) ht, o_bs, if_neg i10]
      by_cases hA : sb A t = true
      · obtain ⟨d1, d2⟩ := and_dec A a1 t (by omega) hA
        have hz := (a2 t (by omega)).mp hA
        have hg : gdv k ρ (fun i => Int64.toInt32 (m.2 40 (60 * s + i))) i := by
          obtain ⟨p, p1, p2⟩ := hz.1
          refine ⟨⟨p, p1, ?_⟩, fun j hj => ?_⟩
          · simp only; rw [e, p2]
          · simp only; rw [e]; exact hz.2 j hj
        rw [if_neg (fun q => (sb_0 (by omega) (by omega)).mp q hA)]
        simp only
        rw [p_lay1 ar_29 (by omega), o_bs, d1, nI_1]
        refine wp_inl ⟨⟨A - 2 ^ t, rfl, by omega, fun u hu => ?_⟩, rfl, sm_trans i1 (sm_a fun j => rfl), fun i' hi' => ?_⟩
        · rw [sb_sub A a1 t (by omega) hA u hu, Bool.and_eq_true, a2 u hu, decide_eq_true_iff]
          constructor
          · rintro ⟨⟨z1, z2⟩, z3⟩
            refine ⟨z1, fun j hj => ?_⟩
            by_cases w : j = i
            · rw [w, e]; exact fun q => z3 (nI_inj (by omega) (by omega) q).symm
            · exact z2 j (by omega)
          · rintro ⟨z1, z2⟩
            exact ⟨⟨z1, fun j hj => z2 j (by omega)⟩, fun q => z2 i (by omega) (by rw [e, q])⟩
        · simp only
          rw [oj_row_s]
          unfold upd
          by_cases w : i' = i
          · rw [w, if_pos rfl, e]; exact ⟨hg, rfl⟩
          · rw [if_neg w]; exact i2 i' (by omega)
      · rw [if_pos ((sb_0 (by omega) (by omega)).mpr hA)]
        refine wp_inr ⟨i1, Or.inl ⟨rfl, i, hi, fun hg => hA ((a2 t (by omega)).mpr ?_)⟩⟩
        obtain ⟨⟨p, p1, p2⟩, g2⟩ := hg
        simp only at p2 g2
        rw [e] at p2 g2
        exact ⟨⟨p, p1, (nI_inj (by omega) (by have := hρ p p1; omega) p2).symm⟩, g2⟩
    · rw [x_hasN ((i1.2 6 2 (by omega)).trans h2) (by omega) hN, o_bs, if_pos rfl]
      refine wp_inr ⟨i1, Or.inl ⟨rfl, i, hi, fun hg => ?_⟩⟩
      obtain ⟨⟨p, p1, p2⟩, _⟩ := hg
      exact hN (ρ p) (hρ p p1) p2
  · obtain ⟨x1, x2, m1⟩ := x
    obtain ⟨⟨A, rfl, a1, a2⟩, rfl, i1, i2⟩ := hI
    simp only at i1 i2 ⊢
    unfold f_X9_isTold_L37b
    rw [if_pos (Int32.le_refl _)]
    exact wp_inr ⟨i1, Or.inr ⟨rfl, i2⟩⟩
theorem m_toldL {n k s : Nat} {ρ : Nat → Nat} {m : ej_M} {Q : Int32 × ej_M → Prop} (hs : s < 6) (hn : n ≤ 8) (hk : k ≤ 6) (h1 : m.1 41 1 = nI n) (h4 : m.1 41 4 = nI k) (h43 : ∀ q, q < k → m.1 43 q = nI (ρ q)) (hρ : ∀ q, q < k → ρ q < n)
    (hbad : (∃ i, i < k ∧ ¬ gdv k ρ (fun i => Int64.toInt32 (m.2 68 (60 * s + i))) i) → ∀ m', oj_sm (fun a _ => a = 62) m m' → Q (-5, m'))
    (hgood : (∀ i, i < k → gdv k ρ (fun i => Int64.toInt32 (m.2 68 (60 * s + i))) i) → ∀ m', oj_sm (fun a _ => a = 62) m m' → (∀ i, i < k → m'.1 62 i = Int64.toInt32 (m.2 68 (60 * s + i))) → oj_wp (f_X11_fewest_L136 0 (ej_w m' 41 29 (nI k))) Q) :
    oj_wp (f_X11_fewest_L52 (nI s) 0 0 m) Q := by
  unfold f_X11_fewest_L52
  refine wp_loop (fun i (x : Int32 × Int32 × ej_M) => (∃ T, x.1 = nI T ∧ T < 256 ∧ ∀ t, t < 8 → (sb T t = true ↔ ∃ j, j < i ∧ Int64.toInt32 (m.2 68 (60 * s + j)) = nI t)) ∧ x.2.1 = nI i ∧ oj_sm (fun a _ => a = 62) m x.2.2 ∧ ∀ i', i' < i → gdv k ρ (fun i => Int64.toInt32 (m.2 68 (60 * s + i))) i' ∧ x.2.2.1 62 i' = Int64.toInt32 (m.2 68 (60 * s + i'))) k (by unfold oj_FU; omega) (fun i x hi hI => ?_) (fun x hI => ?_) (i0 := 0) (by omega) ⟨⟨0, rfl, by decide, fun s hs => ⟨fun h => absurd h (by rw [sb_hi (i := s) (Nat.pow_pos (by decide))]; decide), fun ⟨p, hp, _⟩ => absurd hp (Nat.not_lt_zero _)⟩⟩, rfl, sm_refl, fun j hj => absurd hj (Nat.not_lt_zero _)⟩
  · obtain ⟨x1, x2, m1⟩ := x
    obtain ⟨⟨T, rfl, a1, a2⟩, rfl, i1, i2⟩ := hI
    simp only at i1 i2 ⊢
    unfold f_X11_fewest_L52b
    have e4 : m1.1 41 4 = nI k := (i1.2 41 4 (by omega)).trans h4
    rw [e4, if_neg (fun q => by have := (nI_leI (by omega) (by omega)).mp q; omega), sh_ix2, ol_ld ar_68 (by omega), o_bs, i1.1]
    rcases r_cases (Int64.toInt32 (m.2 68 (60 * s + i))) n with ⟨t, ht, e⟩ | hN
    · rw [e, m_stoneY ((i1.2 41 1 (by omega)).trans h1) (by omega) ht, o_bs, if_neg i10]
      simp only
      obtain ⟨u, u1, u2⟩ := m_placeOf (ρ := ρ) e4 (by omega) (fun q hq => (i1.2 43 q (by omega)).trans (h43 q hq)) (nI t)
      rw [u1, o_bs]
      simp only
      rcases u2 with ⟨p, p1, p2, _, rfl⟩ | ⟨z, rfl⟩
      · have hp : ρ p = t := by
          unfold pl_f at p2
          exact nI_inj (by have := hρ p p1; omega) (by omega) (Decidable.not_not.mp (of_decide_eq_false p2))
        rw [if_neg (show ¬ nI p < 0 from fun q => absurd (nI_0le (a := p) (by omega)) (Int32.not_le.mpr q))]
        by_cases hT : sb T t = true
        · rw [if_pos ((sb_1 (by omega) (by omega)).mpr hT)]
          refine wp_inr (hbad ⟨i, hi, fun hg => ?_⟩ m1 i1)
          obtain ⟨j, j1, j2⟩ := (a2 t (by omega)).mp hT
          exact hg.2 j j1 (j2.trans e.symm)
        · obtain ⟨d1, d2⟩ := or_dec T a1 t (by omega) hT
          have hg : gdv k ρ (fun i => Int64.toInt32 (m.2 68 (60 * s + i))) i := by
            refine ⟨⟨p, p1, ?_⟩, fun j hj => ?_⟩
            · simp only; rw [e, hp]
            · simp only; rw [e]; exact fun z => hT ((a2 t (by omega)).mpr ⟨j, hj, z⟩)
          rw [if_neg (fun q => hT ((sb_1 (by omega) (by omega)).mp q)), oj_ar_st ar_62 (by omega), o_bs, d1, nI_1]
          refine wp_inl ⟨⟨T + 2 ^ t, rfl, d2, fun u hu => ?_⟩, rfl, sm_trans i1 (sm_a fun j => rfl), fun i' hi' => ?_⟩
          · rw [sb_add T a1 t (by omega) hT u hu, Bool.or_eq_true, a2 u hu, decide_eq_true_iff]
            constructor
            · rintro (⟨j, j1, j2⟩ | z)
              · exact ⟨j, by omega, j2⟩
              · exact ⟨i, by omega, by rw [e, z]⟩
            · rintro ⟨j, j1, j2⟩
              by_cases w : j = i
              · rw [w, e] at j2
                exact Or.inr (nI_inj (by omega) (by omega) j2).symm
              · exact Or.inl ⟨j, by omega, j2⟩
          · simp only
            rw [oj_row_s]
            unfold upd
            by_cases w : i' = i
            · rw [w, if_pos rfl, e]; exact ⟨hg, rfl⟩
            · rw [if_neg w]; exact i2 i' (by omega)
      · rw [if_pos (by decide)]
        refine wp_inr (hbad ⟨i, hi, fun hg => ?_⟩ m1 i1)
        obtain ⟨⟨p, p1, p2⟩, _⟩ := hg
        simp only at p2
        rw [e] at p2
        have := z p p1
        unfold pl_f at this
        exact of_decide_eq_true this p2.symm
    · rw [m_stoneN ((i1.2 41 1 (by omega)).trans h1) (by omega) hN, o_bs, if_pos rfl]
      refine wp_inr (hbad ⟨i, hi, fun hg => ?_⟩ m1 i1)
      obtain ⟨⟨p, p1, p2⟩, _⟩ := hg
      exact hN (ρ p) (hρ p p1) p2
  · obtain ⟨x1, x2, m1⟩ := x
    obtain ⟨⟨T, rfl, a1, a2⟩, rfl, i1, i2⟩ := hI
    simp only at i1 i2 ⊢
    unfold f_X11_fewest_L52b oj_pf
    rw [i1.2 41 4 (by omega), h4, if_pos (Int32.le_refl _), o_bs]
    exact wp_map (wp_mono (hgood (fun i hi => (i2 i hi).1) m1 i1 fun i hi => (i2 i hi).2) fun q hq => hq)
theorem m_fewL {P : Option (List (List Int32 × List Int32))} {w : Nat → Int32} {g : Int32} {k N : Nat} {ρ τ : Nat → Nat} {m : ej_M} (hk : k ≤ 6) (hN : N ≤ 8) (hK : MK P w g N m) (h4 : m.1 41 4 = nI k) (h29 : m.1 41 29 = nI k) (h43 : ∀ q, q < k → m.1 43 q = nI (ρ q) ∧ ρ q < N) (hj : ∀ p q, p < k → q < k → ρ p = ρ q → p = q) (hτ : ∀ i, i < k → m.1 62 i = nI (τ i) ∧ τ i < 8) :
    oj_wp (f_X11_fewest_L136 0 m) fun q => AnS (LWf P w g k) k ρ (rk τ k) q.1 ∧ oj_sm SM m q.2 := by
  unfold f_X11_fewest_L136
  refine wp_loop (fun i (x : Int32 × ej_M) => x.1 = nI i ∧ oj_sm (fun a _ => a = 56) m x.2 ∧ ∀ q, q < i → x.2.1 56 q = nI (τ q)) k (by unfold oj_FU; omega) (fun i x hi hI => ?_) (fun x hI => ?_) (i0 := 0) (by omega) ⟨rfl, sm_refl, fun j hj => absurd hj (Nat.not_lt_zero _)⟩
  · obtain ⟨v, m1⟩ := x
    obtain ⟨rfl, i1, i2⟩ := hI
    simp only at i1 i2 ⊢
    unfold f_X11_fewest_L136b
    rw [i1.2 41 4 (by omega), h4, if_neg (fun q => by have := (nI_leI (by omega) (by omega)).mp q; omega), oj_ar_ld ar_62 (by omega), o_bs, oj_ar_st ar_56 (by omega), o_bs, nI_1, i1.2 62 i (by omega), (hτ i hi).1]
    refine wp_inl ⟨rfl, sm_trans i1 (sm_a fun j => rfl), fun q hq => ?_⟩
    simp only
    rw [oj_row_s]
    unfold upd
    by_cases e : q = i
    · rw [if_pos e, e]
    · rw [if_neg e]; exact i2 q (by omega)
  · obtain ⟨v, m1⟩ := x
    obtain ⟨rfl, i1, i2⟩ := hI
    simp only at i1 i2 ⊢
    unfold f_X11_fewest_L136b
    have hs : oj_sm SM m m1 := sm_mono i1 fun a j z => by unfold SM; omega
    rw [i1.2 41 4 (by omega), h4, if_pos (Int32.le_refl _), m_rank ((i1.2 41 29 (by omega)).trans h29) hk (fun q hq => ⟨i2 q hq, (hτ q hq).2⟩), o_bs]
    simp only
    refine wp_bind (wp_mono (m_goTurns hk hN (rk_lt hk) (MK_go hN hs hK) ((i1.2 41 4 (by omega)).trans h4) (fun q hq => by rw [i1.2 43 q (by omega)]; exact h43 q hq) hj) fun r hr => ?_)
    exact wp_inr ⟨hr.1, sm_trans hs hr.2⟩
