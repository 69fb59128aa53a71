/-! fewest: ranks, in both -/
theorem x_rankIn {o N k p : Nat} {r : Nat → Nat} {v : Int32} {m : ej_M} (ho : oj_ar o N) (hN : k ≤ N) (hk : k ≤ 6) (hp : p < k) (hr : ∀ q, q < k → m.1 o q = nI (r q) ∧ r q < 8) : f_X9_rank_L17 o (nI k) v (nI p) 0 (nI (p + 1)) m = some (Sum.inl (v * nI (k - p) + nI (lc r p k), nI (p + 1), m)) := by
  unfold f_X9_rank_L17
  refine wp_get (wp_loop (fun j (s : Int32 × Int32 × ej_M) => s = (nI (lc r p j), nI j, m) ∧ p < j) k (by unfold oj_FU; omega) (fun j s hj hJ => ?_) (fun s hJ => ?_) (i0 := p + 1) (by omega) ⟨?_, by omega⟩)
  · obtain ⟨rfl, hpj⟩ := hJ
    simp only
    unfold f_X9_rank_L17b
    rw [if_neg (fun q => by have := (nI_leI (by omega) (by omega)).mp q; omega), p_at1 ho (by omega), o_bs]
    simp only
    rw [p_at1 ho (by omega), o_bs, (hr j hj).1, (hr p hp).1]
    simp only
    by_cases e : r p ≤ r j
    · rw [if_pos ((nI_leI (by have := (hr p hp).2; omega) (by have := (hr j hj).2; omega)).mpr e), nI_1]
      refine wp_inl ⟨?_, by omega⟩
      unfold lc
      rw [s_cn_s0 (by rw [decide_eq_false (by omega)]; decide)]
    · rw [if_neg (fun q => e ((nI_leI (by have := (hr p hp).2; omega) (by have := (hr j hj).2; omega)).mp q)), nI_1, nI_1]
      refine wp_inl ⟨?_, by omega⟩
      unfold lc
      rw [s_cn_s1 (decide_eq_true (by omega))]
  · obtain ⟨rfl, hpj⟩ := hJ
    simp only
    unfold f_X9_rank_L17b
    rw [if_pos (Int32.le_refl _), nI_sub (by omega), nI_1]
    exact wp_inr rfl
  · unfold lc
    rw [s_cn_0 (p + 1) (fun q hq => decide_eq_false (by omega))]
    rfl
theorem x_rank {o N k : Nat} {r : Nat → Nat} {m : ej_M} (ho : oj_ar o N) (hN : k ≤ N) (hk : k ≤ 6) (hr : ∀ q, q < k → m.1 o q = nI (r q) ∧ r q < 8) : f_X9_rank o (nI k) m = some (nI (rk r k), m) := by
  unfold f_X9_rank f_X9_rank_L4
  refine wp_get (wp_loop (fun p (s : Int32 × Int32 × ej_M) => s = (nI (hkr r k p), nI p, m)) k (by unfold oj_FU; omega) (fun p s hp hJ => ?_) (fun s hJ => ?_) (i0 := 0) (by omega) rfl)
  · subst hJ
    simp only
    unfold f_X9_rank_L4b
    rw [if_neg (fun q => by have := (nI_leI (by omega) (by omega)).mp q; omega), nI_1, x_rankIn ho hN hk hp hr, nI_mul, nI_add]
    exact wp_inl rfl
  · subst hJ
    simp only
    unfold f_X9_rank_L4b
    rw [if_pos (Int32.le_refl _), rk_hk]
    exact wp_inr rfl
theorem m_ways {d : Nat} {m : ej_M} (hd : d ≤ 6) : f_X11_ways1 (nI d) m = some (nI (fc d), m) := by
  unfold f_X11_ways1 f_X11_ways1_L4
  by_cases h0 : d = 0
  · subst h0
    rw [show oj_FU = 99999 + 1 from rfl]
    refine wp_get (wp_loop1 ?_)
    simp only
    unfold f_X11_ways1_L4b
    rw [if_pos (show nI 0 < 2 by decide)]
    exact wp_inr rfl
  · refine wp_get (wp_loop (fun i (s : Int32 × Int32 × ej_M) => s = (nI (fc (i - 1)), nI i, m) ∧ 2 ≤ i) (d + 1) (by unfold oj_FU; omega) (fun i s hi hJ => ?_) (fun s hJ => ?_) (i0 := 2) (by omega) ⟨rfl, by omega⟩)
    · obtain ⟨rfl, h2⟩ := hJ
      simp only
      unfold f_X11_ways1_L4b
      rw [if_neg (fun q => by have := (nI_ltI (by omega) (by omega)).mp q; omega), nI_mul, nI_1]
      refine wp_inl ⟨?_, by omega⟩
      obtain ⟨j, rfl⟩ : ∃ j, i = j + 1 := ⟨i - 1, by omega⟩
      rw [show j + 1 + 1 - 1 = j + 1 by omega, show j + 1 - 1 = j by omega, Nat.mul_comm]
      rfl
    · obtain ⟨rfl, h2⟩ := hJ
      simp only
      unfold f_X11_ways1_L4b
      rw [if_pos ((nI_ltI (by omega) (by omega)).mpr (by omega)), show d + 1 - 1 = d by omega]
      exact wp_inr rfl
theorem m_rankIn {k p : Nat} {r : Nat → Nat} {v : Nat} {m : ej_M} (h29 : m.1 41 29 = nI k) (hk : k ≤ 6) (hp : p < k) (hr : ∀ q, q < k → m.1 56 q = nI (r q) ∧ r q < 8) : f_X11_rankOf_L19 (nI v) (nI p) 0 (nI (p + 1)) m = some (Sum.inl (nI (v + lc r p k * fc (k - p - 1)), nI (p + 1), m)) := by
  unfold f_X11_rankOf_L19
  refine wp_get (wp_loop (fun j (s : Int32 × Int32 × ej_M) => s = (nI (lc r p j), nI j, m) ∧ p < j) k (by unfold oj_FU; omega) (fun j s hj hJ => ?_) (fun s hJ => ?_) (i0 := p + 1) (by omega) ⟨?_, by omega⟩)
  · obtain ⟨rfl, hpj⟩ := hJ
    simp only
    unfold f_X11_rankOf_L19b
    rw [h29, if_neg (fun q => by have := (nI_leI (by omega) (by omega)).mp q; omega), oj_ar_ld ar_56 (by omega), o_bs, oj_ar_ld ar_56 (by omega), o_bs, (hr j hj).1, (hr p hp).1]
    by_cases e : r p ≤ r j
    · rw [if_pos ((nI_leI (by have := (hr p hp).2; omega) (by have := (hr j hj).2; omega)).mpr e), nI_1]
      refine wp_inl ⟨?_, by omega⟩
      unfold lc
      rw [s_cn_s0 (by rw [decide_eq_false (by omega)]; decide)]
    · rw [if_neg (fun q => e ((nI_leI (by have := (hr p hp).2; omega) (by have := (hr j hj).2; omega)).mp q)), nI_1, nI_1]
      refine wp_inl ⟨?_, by omega⟩
      unfold lc
      rw [s_cn_s1 (decide_eq_true (by omega))]
  · obtain ⟨rfl, hpj⟩ := hJ
    simp only
    unfold f_X11_rankOf_L19b
    rw [h29, if_pos (Int32.le_refl _), nI_sub (by omega), show (1 : Int32) = nI 1 from rfl, nI_sub (by omega), m_ways (by omega), o_bs, nI_mul, nI_add, nI_add]
    exact wp_inr rfl
  · unfold lc
    rw [s_cn_0 (p + 1) (fun q hq => decide_eq_false (by omega))]
    rfl
theorem m_rank {k : Nat} {r : Nat → Nat} {m : ej_M} (h29 : m.1 41 29 = nI k) (hk : k ≤ 6) (hr : ∀ q, q < k → m.1 56 q = nI (r q) ∧ r q < 8) : f_X11_rankOf m = some (nI (rk r k), m) := by
  unfold f_X11_rankOf f_X11_rankOf_L4
  refine wp_get (wp_loop (fun p (s : Int32 × Int32 × ej_M) => s = (nI (rs r k p), nI p, m)) k (by unfold oj_FU; omega) (fun p s hp hJ => ?_) (fun s hJ => ?_) (i0 := 0) (by omega) rfl)
  · subst hJ
    simp only
    unfold f_X11_rankOf_L4b
    rw [h29, if_neg (fun q => by have := (nI_leI (by omega) (by omega)).mp q; omega), nI_1, m_rankIn h29 hk hp hr]
    exact wp_inl rfl
  · subst hJ
    simp only
    unfold f_X11_rankOf_L4b
    rw [h29, if_pos (Int32.le_refl _)]
    exact wp_inr rfl
theorem dv_N {e d : Nat} (he : e < 2 ^ 31) (hd : d < 1000) (h0 : 0 < d) : oj_dv (nI e) (nI d) = some (nI (e / d)) := by
  unfold oj_dv
  rw [if_neg (fun q => by have := (nI_eq0 (by omega)).mp q; omega)]
  exact congrArg some (pk_div (d := d) he h0 (by omega))
theorem m_layIn {k p T : Nat} {ρ r : Nat → Nat} {v : Int32} {m : ej_M} (hk : k ≤ 6) (hp : p < k) (h4 : m.1 41 4 = nI k) (h43 : ∀ q, q < k → m.1 43 q = nI (ρ q) ∧ ρ q < 8) (hj : ∀ p q, p < k → q < k → ρ p = ρ q → p = q) (hP : PR k ρ r) (h8 : ∀ q, q < k → r q < 8) (hT : T < 256) (hTs : ∀ s, s < 8 → (sb T s = true ↔ ∃ q, q < p ∧ r q = s)) :
    ∃ T', T' < 256 ∧ (∀ s, s < 8 → (sb T' s = true ↔ ∃ q, q < p + 1 ∧ r q = s)) ∧ f_X11_layRank_L50 (nI T) v (nI p) (nI (lc r p k)) 0 m = some (Sum.inl (nI T', v, nI (p + 1), oj_row m 56 (upd (m.1 56) p (nI (r p))))) := by
  obtain ⟨U, u1, u2, u3⟩ := m_standing h4 (by omega) h43 hj
  have hn : ¬ sb T (r p) = true := fun q => by
    obtain ⟨q, q1, q2⟩ := (hTs _ (h8 p hp)).mp q
    have := hP.2 q p (by omega) hp q2
    omega
  have hf : ∀ s, s < 8 → ((sb U s && !(sb T s)) = true ↔ ∃ q, p ≤ q ∧ q < k ∧ r q = s) := fun s hs => by
    rw [Bool.and_eq_true, u3 s hs, ← hP.1 s]
    constructor
    · rintro ⟨⟨q, q1, q2⟩, z⟩
      refine ⟨q, ?_, q1, q2⟩
      by_cases w : p ≤ q
      · exact w
      · rw [(hTs s hs).mpr ⟨q, by omega, q2⟩] at z; cases z
    · rintro ⟨q, q1, q2, q3⟩
      refine ⟨⟨q, q2, q3⟩, ?_⟩
      cases z : sb T s with
      | false => rfl
      | true =>
        obtain ⟨q', w1, w2⟩ := (hTs s hs).mp z
        have := hP.2 q' q (by omega) q2 (w2.trans q3.symm)
        omega
  have hl : s_cn (fun s => sb U s && !(sb T s)) (r p) = lc r p k := lc_eq hP.2 hp fun s hs => hf s (by have := h8 p hp; omega)
  have hl8 : lc r p k ≤ k := by have := lc_le r p k; omega
  obtain ⟨d1, d2⟩ := or_dec T hT (r p) (h8 p hp) hn
  refine ⟨T + 2 ^ r p, d2, fun s hs => ?_, ?_⟩
  · rw [sb_add T hT _ (h8 p hp) hn s hs]
    constructor
    · intro h
      by_cases e : s = r p
      · exact ⟨p, by omega, e.symm⟩
      · rw [decide_eq_false e, Bool.or_false] at h
        obtain ⟨q, q1, q2⟩ := (hTs s hs).mp h
        exact ⟨q, by omega, q2⟩
    · rintro ⟨q, q1, q2⟩
      by_cases e2 : q = p
      · rw [decide_eq_true (by rw [← q2, e2]), Bool.or_true]
      · rw [(hTs s hs).mpr ⟨q, by omega, q2⟩, Bool.true_or]
  unfold f_X11_layRank_L50
  refine wp_get (wp_loop (fun s (x : Int32 × Int32 × ej_M) => x = (nI (lc r p k - s_cn (fun s => sb U s && !(sb T s)) s), nI s, m)) (r p) (by have := h8 p hp; unfold oj_FU; omega) (fun s x hs hJ => ?_) (fun x hJ => ?_) (i0 := 0) (by omega) rfl)
  · subst hJ
    have hs8 : s < 8 := by have := h8 p hp; omega
    simp only
    unfold f_X11_layRank_L50b
    rw [u1, o_bs]
    simp only
    by_cases e1 : sb U s = true
    · rw [if_neg (fun q => (sb_0 (by omega) (by omega)).mp q e1)]
      by_cases e2 : sb T s = true
      · rw [if_pos ((sb_1 (by omega) (by omega)).mpr e2)]
        unfold f_X11_layRank_B77
        rw [u1, o_bs]
        simp only
        rw [if_pos ((sb_1 (by omega) (by omega)).mpr e1), if_neg (fun q => (sb_0 (by omega) (by omega)).mp q e2), nI_1]
        refine wp_inl ?_
        rw [s_cn_s0 (by rw [e2, e1]; decide)]
      · have hfs : (sb U s && !(sb T s)) = true := by
          rw [e1]
          cases z : sb T s with
          | true => exact absurd z e2
          | false => rfl
        have hlt : s_cn (fun s => sb U s && !(sb T s)) s + 1 ≤ lc r p k := by
          rw [← hl, ← s_cn_s1 (kp := fun s => sb U s && !(sb T s)) hfs]
          exact s_cn_up hs
        rw [if_neg (fun q => e2 ((sb_1 (by omega) (by omega)).mp q)), if_neg (show ¬ nI (lc r p k - s_cn (fun s => sb U s && !(sb T s)) s) ≤ 0 from fun q => by have := (nI_leI (b := 0) (by omega) (by omega)).mp q; omega)]
        unfold f_X11_layRank_B77
        rw [u1, o_bs]
        simp only
        rw [if_pos ((sb_1 (by omega) (by omega)).mpr e1), if_pos ((sb_0 (by omega) (by omega)).mpr e2), nI_1, nI_am1 (by omega)]
        refine wp_inl ?_
        rw [s_cn_s1 (kp := fun s => sb U s && !(sb T s)) hfs, Nat.sub_sub]
    · rw [if_pos ((sb_0 (by omega) (by omega)).mpr e1)]
      unfold f_X11_layRank_B77
      rw [u1, o_bs]
      simp only
      rw [if_neg (fun q => e1 ((sb_1 (by omega) (by omega)).mp q)), nI_1]
      refine wp_inl ?_
      rw [s_cn_s0 (fun z => e1 (Bool.and_eq_true_iff.mp z).1)]
  · subst hJ
    have hz := (hf (r p) (h8 p hp)).mpr ⟨p, Nat.le_refl _, hp, rfl⟩
    have hz1 := (Bool.and_eq_true_iff.mp hz).1
    simp only
    unfold f_X11_layRank_L50b
    rw [u1, o_bs]
    simp only
    have := h8 p hp
    rw [if_neg (fun q => (sb_0 (by omega) (by omega)).mp q hz1), if_neg (fun q => hn ((sb_1 (by omega) (by omega)).mp q)), hl, Nat.sub_self, if_pos (show nI 0 ≤ 0 by decide), oj_ar_st ar_56 (by omega), o_bs, nI_1, d1]
    exact wp_inr rfl
theorem m_layRank {k : Nat} {ρ r : Nat → Nat} {m : ej_M} (hk : k ≤ 6) (h29 : m.1 41 29 = nI k) (h4 : m.1 41 4 = nI k) (h43 : ∀ q, q < k → m.1 43 q = nI (ρ q) ∧ ρ q < 8) (hj : ∀ p q, p < k → q < k → ρ p = ρ q → p = q) (hP : PR k ρ r) (h8 : ∀ q, q < k → r q < 8) :
    oj_wp (f_X11_layRank (nI (rk r k)) m) fun q => oj_sm (fun a _ => a = 56) m q.2 ∧ ∀ q', q' < k → q.2.1 56 q' = nI (r q') := by
  unfold f_X11_layRank f_X11_layRank_L7
  refine wp_loop (fun p (x : Int32 × Int32 × Int32 × ej_M) => (∃ T, x.1 = nI T ∧ T < 256 ∧ ∀ s, s < 8 → (sb T s = true ↔ ∃ q, q < p ∧ r q = s)) ∧ x.2.1 = nI (rt2 r k p (k - p)) ∧ x.2.2.1 = nI p ∧ oj_sm (fun a _ => a = 56) m x.2.2.2 ∧ ∀ q', q' < p → x.2.2.2.1 56 q' = nI (r q')) k (by unfold oj_FU; omega) (fun p x hp hI => ?_) (fun x hI => ?_) (i0 := 0) (by omega) ⟨⟨0, rfl, by decide, fun s hs => ⟨fun h => absurd h (by rw [sb_hi (i := s) (Nat.pow_pos (by decide))]; decide), fun ⟨p, hp, _⟩ => absurd hp (Nat.not_lt_zero _)⟩⟩, by rw [Nat.sub_zero, rt2_0], rfl, sm_refl, fun q' h => absurd h (Nat.not_lt_zero _)⟩
  · obtain ⟨x1, x2, x3, m1⟩ := x
    obtain ⟨⟨T, rfl, t1, t2⟩, rfl, rfl, i1, i2⟩ := hI
    simp only at i1 i2 ⊢
    have e29 : m1.1 41 29 = nI k := (i1.2 41 29 (by omega)).trans h29
    obtain ⟨f, hf⟩ : ∃ f, p + (f + 1) = k := ⟨k - p - 1, by omega⟩
    have hd := rt2_dv (r := r) hf
    have hb : rt2 r k p (f + 1) < 2 ^ 31 := by
      have := rt2_b r k (f + 1) p hf
      have := fc_720 (n := k - p) (by omega)
      omega
    have hfc : fc (k - p - 1) < 1000 := by have := fc_720 (n := k - p - 1) (by omega); omega
    unfold f_X11_layRank_L7b
    rw [e29, if_neg (fun q => by have := (nI_leI (by omega) (by omega)).mp q; omega), nI_sub (by omega), show (1 : Int32) = nI 1 from rfl, nI_sub (by omega), m_ways (by omega), o_bs]
    simp only
    have e1 : k - p = f + 1 := by omega
    rw [e1] at hd hfc
    rw [e1, dv_N hb hfc (fc_pos _), o_bs, e29]
    rw [nI_sub (a := k) (by omega), nI_sub (by omega), m_ways (by omega), o_bs, e1]
    simp only
    rw [s_rm hb hfc (fc_pos _), o_bs, hd.1, hd.2]
    obtain ⟨T', t3, t4, t5⟩ := m_layIn (m := m1) (T := T) (v := nI (rt2 r k (p + 1) f)) hk hp ((i1.2 41 4 (by omega)).trans h4) (fun q hq => by rw [i1.2 43 q (by omega)]; exact h43 q hq) hj hP h8 t1 t2
    rw [t5]
    refine wp_inl ⟨⟨T', rfl, t3, t4⟩, by rw [show k - (p + 1) = f by omega], rfl, sm_trans i1 (sm_a fun j => rfl), fun q' hq' => ?_⟩
    simp only
    rw [oj_row_s]
    unfold upd
    by_cases e : q' = p
    · rw [if_pos e, e]
    · rw [if_neg e]; exact i2 q' (by omega)
  · obtain ⟨x1, x2, x3, m1⟩ := x
    obtain ⟨⟨T, rfl, t1, t2⟩, rfl, rfl, i1, i2⟩ := hI
    simp only at i1 i2 ⊢
    unfold f_X11_layRank_L7b
    rw [i1.2 41 29 (by omega), h29, if_pos (Int32.le_refl _)]
    exact wp_inr ⟨i1, i2⟩
theorem r3 : ∀ j, j < 6 → ∀ c, c < 8 → nI c <<< ((3 * nI j) &&& 31) = nI (c * 8 ^ j) := by decide
theorem r3b : ∀ j, j < 6 → (3 * nI j) &&& 31 = nI (3 * j) &&& 31 := by decide
def pkd (r : Nat → Nat) : Nat → Nat
  | 0 => 0
  | j + 1 => r j * 8 ^ j + pkd r j
theorem pkd_lt {r : Nat → Nat} : ∀ j, (∀ q, q < j → r q < 8) → pkd r j < 8 ^ j := by
  intro j
  induction j with
  | zero => intro _; exact Nat.one_pos
  | succ j ih =>
    intro h
    have a := ih fun q hq => h q (by omega)
    have b : (r j + 1) * 8 ^ j ≤ 8 * 8 ^ j := Nat.mul_le_mul_right _ (h j (by omega))
    rw [Nat.add_mul, Nat.one_mul] at b
    show r j * 8 ^ j + pkd r j < 8 ^ (j + 1)
    rw [Nat.pow_succ]
    omega
theorem pw_86 {j : Nat} (h : j ≤ 6) : 8 ^ j ≤ 262144 := Nat.le_trans (Nat.pow_le_pow_right (by decide) h) (by decide)
theorem pkd_at {r : Nat → Nat} {j : Nat} : ∀ k, (∀ q, q < k → r q < 8) → j < k → pkd r k / 8 ^ j % 8 = r j := by
  intro k
  induction k with
  | zero => intro _ h; exact absurd h (Nat.not_lt_zero _)
  | succ k ih =>
    intro h hj
    have hk := pkd_lt k fun q hq => h q (by omega)
    show (r k * 8 ^ k + pkd r k) / 8 ^ j % 8 = r j
    by_cases e : j = k
    · subst e
      rw [Nat.add_comm, Nat.add_mul_div_right _ _ (Nat.pow_pos (by decide)), Nat.div_eq_of_lt hk, Nat.zero_add, Nat.mod_eq_of_lt (h j (by omega))]
    · obtain ⟨d, rfl⟩ : ∃ d, k = j + d + 1 := ⟨k - j - 1, by omega⟩
      have : r (j + d + 1) * 8 ^ (j + d + 1) = (r (j + d + 1) * 8 ^ d * 8) * 8 ^ j := by
        rw [Nat.pow_succ, Nat.pow_add]; ac_rfl
      rw [this, Nat.add_comm, Nat.add_mul_div_right _ _ (Nat.pow_pos (by decide)), Nat.add_mul_mod_self_right]
      exact ih (fun q hq => h q (by omega)) (by omega)
theorem nb_or (a b : Nat) : nI a ||| nI b = nI (a ||| b) := by
  apply Int32.toBitVec_inj.1
  show BitVec.ofNat 32 a ||| BitVec.ofNat 32 b = BitVec.ofNat 32 (a ||| b)
  exact (BitVec.ofNat_or).symm
theorem nI_orp {a c j : Nat} (ha : a < 8 ^ j) : nI a ||| nI (c * 8 ^ j) = nI (c * 8 ^ j + a) := by
  rw [show (8 : Nat) = 2 ^ 3 from rfl, ← Nat.pow_mul] at *
  rw [nb_or, Nat.or_comm, Nat.mul_comm c, Nat.two_pow_add_eq_or_of_lt ha]
theorem x_packed {k : Nat} {r : Nat → Nat} {m : ej_M} (hk : k ≤ 6) (hr : ∀ q, q < k → m.1 31 q = nI (r q) ∧ r q < 8) : f_X9_packed (nI k) m = some (nI (pkd r k), m) := by
  unfold f_X9_packed f_X9_packed_L4
  refine wp_get (wp_loop (fun p (s : Int32 × Int32 × ej_M) => s = (nI (pkd r p), nI p, m)) k (by unfold oj_FU; omega) (fun p s hp hJ => ?_) (fun s hJ => ?_) (i0 := 0) (by omega) rfl)
  · subst hJ
    simp only
    unfold f_X9_packed_L4b
    rw [if_neg (fun q => by have := (nI_leI (by omega) (by omega)).mp q; omega), p_at1 ar_31 (by omega), o_bs, (hr p hp).1]
    simp only
    rw [r3 p (by omega) _ (hr p hp).2, nI_orp (pkd_lt p fun q hq => (hr q (by omega)).2), nI_1]
    exact wp_inl rfl
  · subst hJ
    simp only
    unfold f_X9_packed_L4b
    rw [if_pos (Int32.le_refl _)]
    exact wp_inr rfl
theorem x_unpack {k : Nat} {r : Nat → Nat} {m : ej_M} (hk : k ≤ 6) (hr : ∀ q, q < k → r q < 8) : oj_wp (f_X9_unpack (nI (pkd r k)) (nI k) m) fun q => oj_sm (fun a _ => a = 30) m q.2 ∧ ∀ q', q' < k → q.2.1 30 q' = nI (r q') := by
  have hb : pkd r k < 2 ^ 31 := by have := pkd_lt k hr; have := pw_86 hk; omega
  unfold f_X9_unpack f_X9_unpack_L2
  refine wp_loop (fun p (s : Int32 × ej_M) => s.1 = nI p ∧ oj_sm (fun a _ => a = 30) m s.2 ∧ ∀ q', q' < p → s.2.1 30 q' = nI (r q')) k (by unfold oj_FU; omega) (fun p s hp hJ => ?_) (fun s hJ => ?_) (i0 := 0) (by omega) ⟨rfl, sm_refl, fun q' h => absurd h (Nat.not_lt_zero _)⟩
  · obtain ⟨a, m1⟩ := s
    obtain ⟨rfl, i1, i2⟩ := hJ
    simp only at i1 i2 ⊢
    unfold f_X9_unpack_L2b
    rw [if_neg (fun q => by have := (nI_leI (by omega) (by omega)).mp q; omega), p_lay1 ar_30 (by omega), o_bs, nI_1, r3b p (by omega), nb_shr hb (by omega), show (7 : Int32) = nI 7 from rfl, nb_and, show pkd r k / 2 ^ (3 * p) &&& 7 = pkd r k / 2 ^ (3 * p) % 8 from Nat.and_two_pow_sub_one_eq_mod _ 3, Nat.pow_mul, show (2 : Nat) ^ 3 = 8 from rfl, pkd_at k hr hp]
    refine wp_inl ⟨rfl, sm_trans i1 (sm_a fun j => rfl), fun q' hq' => ?_⟩
    simp only
    rw [oj_row_s]
    unfold upd
    by_cases e : q' = p
    · rw [if_pos e, e]
    · rw [if_neg e]; exact i2 q' (by omega)
  · obtain ⟨a, m1⟩ := s
    obtain ⟨rfl, i1, i2⟩ := hJ
    simp only at i1 i2 ⊢
    unfold f_X9_unpack_L2b
    rw [if_pos (Int32.le_refl _)]
    exact wp_inr ⟨i1, i2⟩
