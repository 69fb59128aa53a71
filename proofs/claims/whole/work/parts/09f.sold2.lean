/-! soldOn: the sales, the reference -/
section SO3
variable {P : Option (List (List Int32 × List Int32))} {w : Nat → Int32} {g : Int32} {k : Nat} {ρ : Nat → Nat}
/-- whether a stone may be sold next -/
def cN (P : Option (List (List Int32 × List Int32))) (w : Nat → Int32) (g : Int32) (k : Nat) (ρ : Nat → Nat) (kp : Nat → Bool) (s : Nat) : Bool := cK P w g k ρ kp s && decide (MV P w g k ρ (rsK ρ kp s) + 1 = MV P w g k ρ kp)
theorem cN_congr {kp kp' : Nat → Bool} {s : Nat} (h : ∀ q, q < k → kp q = kp' q) : cN P w g k ρ kp s = cN P w g k ρ kp' s := by
  unfold cN
  rw [cK_congr h, MV_congr (rsK_congr h), MV_congr h]
def s_fi (f : Nat → Bool) : Nat → Nat
  | 0 => 0
  | n + 1 => if s_fi f n < n then s_fi f n else if f n = true then n else n + 1
theorem s_fi_sp (f : Nat → Bool) : ∀ n, (s_fi f n < n ∧ f (s_fi f n) = true ∧ ∀ i, i < s_fi f n → f i = false) ∨ (s_fi f n = n ∧ ∀ i, i < n → f i = false) := by
  intro n
  induction n with
  | zero => exact Or.inr ⟨rfl, fun i hi => absurd hi (Nat.not_lt_zero _)⟩
  | succ n ih =>
    unfold s_fi
    rcases ih with ⟨a, b, c⟩ | ⟨a, b⟩
    · rw [if_pos a]; exact Or.inl ⟨by omega, b, c⟩
    · rw [if_neg (by omega)]
      by_cases e : f n = true
      · rw [if_pos e]; exact Or.inl ⟨by omega, e, b⟩
      · rw [if_neg e]
        refine Or.inr ⟨rfl, fun i hi => ?_⟩
        by_cases e2 : i = n
        · rw [e2]; simpa using e
        · exact b i (by omega)
/-- the n-th stone sold, what is left behind n sales -/
def sk (P : Option (List (List Int32 × List Int32))) (w : Nat → Int32) (g : Int32) (k : Nat) (ρ : Nat → Nat) : Nat → Nat → Bool
  | 0, _ => true
  | n + 1, q => rsK ρ (sk P w g k ρ n) (s_fi (cN P w g k ρ (sk P w g k ρ n)) 8) q
def sn (P : Option (List (List Int32 × List Int32))) (w : Nat → Int32) (g : Int32) (k : Nat) (ρ : Nat → Nat) (n : Nat) : Nat := s_fi (cN P w g k ρ (sk P w g k ρ n)) 8
theorem sk_s (n : Nat) : sk P w g k ρ (n + 1) = rsK ρ (sk P w g k ρ n) (sn P w g k ρ n) := rfl
theorem cN_1 {kp : Nat → Bool} {s : Nat} (h : cN P w g k ρ kp s = true) : cK P w g k ρ kp s = true ∧ s_hs kp s k ρ = true ∧ lfK P w g k ρ (rsK ρ kp s) = true ∧ MV P w g k ρ (rsK ρ kp s) + 1 = MV P w g k ρ kp := by
  unfold cN at h
  cases h1 : cK P w g k ρ kp s with
  | false => rw [h1, Bool.false_and] at h; cases h
  | true =>
    rw [h1, Bool.true_and] at h
    have h2 := of_decide_eq_true h
    refine ⟨rfl, ?_⟩
    unfold cK at h1
    cases h3 : s_hs kp s k ρ with
    | false => rw [h3, Bool.false_and] at h1; cases h1
    | true =>
      rw [h3, Bool.true_and] at h1
      exact ⟨rfl, h1, h2⟩
theorem cN_ex (hk : k ≤ 8) {kp : Nat → Bool} (h : 1 ≤ MV P w g k ρ kp) : ∃ s, s < 8 ∧ cN P w g k ρ kp s = true := by
  obtain ⟨a1, a2⟩ := MV_MX (P := P) (w := w) (g := g) (ρ := ρ) hk kp
  rcases a2 with a2 | ⟨s, x, y, z⟩
  · omega
  · refine ⟨s, x, ?_⟩
    unfold cN
    rw [y, decide_eq_true (show MV P w g k ρ (rsK ρ kp s) + 1 = MV P w g k ρ kp from z)]
    rfl
theorem sn_sp (hk : k ≤ 8) {n : Nat} (h : 1 ≤ MV P w g k ρ (sk P w g k ρ n)) : sn P w g k ρ n < 8 ∧ cN P w g k ρ (sk P w g k ρ n) (sn P w g k ρ n) = true ∧ ∀ i, i < sn P w g k ρ n → cN P w g k ρ (sk P w g k ρ n) i = false := by
  rcases s_fi_sp (cN P w g k ρ (sk P w g k ρ n)) 8 with a | ⟨a, b⟩
  · exact a
  · obtain ⟨s, x, y⟩ := cN_ex (P := P) (w := w) (g := g) (ρ := ρ) hk h
    rw [b s x] at y; cases y
theorem sk_MV (hk : k ≤ 8) : ∀ n, n ≤ MV P w g k ρ (sk P w g k ρ 0) → MV P w g k ρ (sk P w g k ρ n) + n = MV P w g k ρ (sk P w g k ρ 0) := by
  intro n
  induction n with
  | zero => intro _; rfl
  | succ n ih =>
    intro h
    have := ih (by omega)
    obtain ⟨_, b, _⟩ := sn_sp (P := P) (w := w) (g := g) (ρ := ρ) hk (n := n) (by omega)
    have := (cN_1 b).2.2.2
    rw [sk_s]
    omega
-- the class's sales
theorem x_firstSale {A : Nat} {n : Nat} {m : ej_M} (hk : k ≤ 8) (hA : A < 2 ^ k) (hj : ∀ p q, p < k → q < k → ρ p = ρ q → p = q) (h8 : ∀ q, q < k → m.1 8 q = nI (ρ q) ∧ ρ q < 8) (h4 : m.1 6 4 = nI k) (hT : TX P w g k ρ (2 ^ k - 1) m) (hkp : ∀ q, q < k → sb A q = sk P w g k ρ n q) (h1 : 1 ≤ MV P w g k ρ (sk P w g k ρ n)) : f_X5_firstSale (nI A) m = some (nI (sn P w g k ρ n), m) := by
  have h256 := pw_8 hk
  obtain ⟨s1, s2, s3⟩ := sn_sp (P := P) (w := w) (g := g) (ρ := ρ) hk h1
  unfold f_X5_firstSale
  rw [x_from (ρ := ρ) hk (by omega) hj (fun q hq => (h8 q hq).2) h4 (fun B hB => hT B (by omega)), o_bs]
  simp only
  unfold f_X5_firstSale_L8
  have hMA : MV P w g k ρ (sb A) = MV P w g k ρ (sk P w g k ρ n) := MV_congr hkp
  refine wp_get (wp_loop (fun s (x : Int32 × ej_M) => x = (nI s, m) ∧ ∀ s', s' < s → cN P w g k ρ (sk P w g k ρ n) s' = false) 8 (by decide) (fun s x hs hI => ?_) (fun x hI => ?_) (i0 := 0) (by decide) ⟨rfl, fun s' h => absurd h (Nat.not_lt_zero _)⟩)
  · obtain ⟨rfl, hI2⟩ := hI
    simp only
    have hbad : ¬ cN P w g k ρ (sk P w g k ρ n) s = true → oj_wp (some (Sum.inl (nI s + 1, m) : (Int32 × ej_M) ⊕ (Int32 × ej_M))) (oj_k (fun x => x = (nI (s + 1), m) ∧ ∀ s', s' < s + 1 → cN P w g k ρ (sk P w g k ρ n) s' = false) fun q => q = (nI (sn P w g k ρ n), m)) := fun hb => by
      refine wp_inl ⟨by rw [nI_1], fun s' hs' => ?_⟩
      by_cases e : s' = s
      · rw [e]; simpa using hb
      · exact hI2 s' (by omega)
    unfold f_X5_firstSale_L8b
    rw [if_neg (show ¬ (8 : Int32) ≤ nI s from fun q => by have := (nI_leI (a := 8) (by decide) (by omega)).mp q; omega)]
    obtain ⟨u, u1, u2⟩ := x_placeOf h4 hk (fun q hq => (h8 q hq).1) (nI s)
    rw [u1, o_bs]
    rcases u2 with ⟨p, hp, hpf, hpb, rfl⟩ | ⟨ha, rfl⟩
    · have hps : ρ p = s := by
        have : ¬ nI (ρ p) ≠ nI s := of_decide_eq_false hpf
        exact nI_inj (by have := (h8 p hp).2; omega) (by omega) (Decidable.of_not_not this)
      rw [if_neg (nI_neq2 (by omega))]
      by_cases e : sb A p = true
      · rw [if_neg (fun q => ((sb_0 (by omega) (by omega)).mp q) e)]
        obtain ⟨d1, d2⟩ := and_dec A (by omega) p (by omega) e
        simp only
        rw [d1, p_at1 ar_26 (by omega), o_bs, hT _ (by omega)]
        have c1 : lfK P w g k ρ (sb (A - 2 ^ p)) = lfK P w g k ρ (rsK ρ (sk P w g k ρ n) s) := by rw [← hps, lfK_congr (sub_rs hk hj (by omega) hp e), lfK_congr (rsK_congr hkp)]
        have c2 : MV P w g k ρ (sb (A - 2 ^ p)) = MV P w g k ρ (rsK ρ (sk P w g k ρ n) s) := by rw [← hps, MV_congr (sub_rs hk hj (by omega) hp e), MV_congr (rsK_congr hkp)]
        have c3 : s_hs (sk P w g k ρ n) s k ρ = true := by rw [← hps]; exact s_hs_mk hp (by rw [← hkp p hp]; exact e)
        have hM := MV_8 (P := P) (w := w) (g := g) (ρ := ρ) hk (rsK ρ (sk P w g k ρ n) s)
        have hM2 := MV_8 (P := P) (w := w) (g := g) (ρ := ρ) hk (sk P w g k ρ n)
        rw [c1, c2, hMA]
        simp only
        by_cases hl : lfK P w g k ρ (rsK ρ (sk P w g k ρ n) s) = true
        · rw [if_pos hl, if_neg (nI_neq1 (by omega)), nI_1]
          by_cases e2 : MV P w g k ρ (rsK ρ (sk P w g k ρ n) s) + 1 = MV P w g k ρ (sk P w g k ρ n)
          · rw [if_pos (by rw [e2])]
            have hc : cN P w g k ρ (sk P w g k ρ n) s = true := by unfold cN cK; rw [c3, hl, decide_eq_true e2]; rfl
            have : s = sn P w g k ρ n := by
              rcases Nat.lt_trichotomy s (sn P w g k ρ n) with q | q | q
              · rw [s3 s q] at hc; cases hc
              · exact q
              · rw [hI2 _ q] at s2; cases s2
            rw [this]
            exact wp_inr rfl
          · rw [if_neg (fun q => e2 (nI_inj (by omega) (by omega) q))]
            exact hbad (fun h => e2 (cN_1 h).2.2.2)
        · rw [if_neg hl, if_pos rfl]
          exact hbad (fun h => hl (cN_1 h).2.2.1)
      · rw [if_pos ((sb_0 (by omega) (by omega)).mpr e)]
        refine hbad fun h => ?_
        obtain ⟨p', hp', e1, e2⟩ := s_hs_ex (cN_1 h).2.1
        have : p' = p := hj p' p hp' hp (e1.trans hps.symm)
        rw [this, ← hkp p hp] at e2
        exact e e2
    · rw [if_pos rfl]
      refine hbad fun h => ?_
      obtain ⟨p', hp', e1, e2⟩ := s_hs_ex (cN_1 h).2.1
      have := ha p' hp'
      unfold pl_f at this
      exact (of_decide_eq_true this) (by rw [e1])
  · obtain ⟨rfl, hI2⟩ := hI
    rw [hI2 _ s1] at s2; cases s2
theorem x_sale {K : Nat} {m : ej_M} (hk : k ≤ 8) (hj : ∀ p q, p < k → q < k → ρ p = ρ q → p = q) (h8 : ∀ q, q < k → m.1 8 q = nI (ρ q) ∧ ρ q < 8) (h4 : m.1 6 4 = nI k) (hT : TX P w g k ρ (2 ^ k - 1) m) (hK : K < MV P w g k ρ (sk P w g k ρ 0)) : f_X5_sale (nI K) m = some (nI (sn P w g k ρ K), m) := by
  have h256 := pw_8 hk
  have hpos : 0 < 2 ^ k := Nat.pow_pos (by decide)
  have hM := MV_8 (P := P) (w := w) (g := g) (ρ := ρ) hk (sk P w g k ρ 0)
  unfold f_X5_sale f_X5_all
  rw [h4, sl_pow k (by omega), o_bs, nI_m1 (by omega)]
  simp only
  unfold f_X5_sale_L11
  refine wp_get (wp_loop (fun n (x : Int32 × Int32 × Int32 × ej_M) => x.2.2 = (nI n, m) ∧ (∃ A, x.1 = nI A ∧ A < 2 ^ k ∧ ∀ q, q < k → sb A q = sk P w g k ρ n q) ∧ (∀ n', n = n' + 1 → x.2.1 = nI (sn P w g k ρ n'))) (K + 1) (by unfold oj_FU; omega) (fun n x hn hI => ?_) (fun x hI => ?_) (i0 := 0) (by omega) ⟨rfl, ⟨2 ^ k - 1, rfl, by omega, fun q hq => sb_all k (by omega) q hq⟩, fun n' e => by omega⟩)
  · obtain ⟨a, a', a'', m1⟩ := x
    obtain ⟨e, ⟨A, rfl, hA, hkp⟩, i3⟩ := hI
    obtain ⟨rfl, rfl⟩ := Prod.mk.inj e
    simp only
    have hMn := sk_MV (P := P) (w := w) (g := g) (ρ := ρ) hk n (by omega)
    obtain ⟨s1, s2, s3⟩ := sn_sp (P := P) (w := w) (g := g) (ρ := ρ) hk (n := n) (by omega)
    unfold f_X5_sale_L11b
    rw [if_neg (fun q => by have := (nI_ltI (by omega) (by omega)).mp q; omega), x_firstSale hk hA hj h8 h4 hT hkp (by omega), o_bs, if_neg (nI_neq2 (by omega))]
    obtain ⟨p, hp, e1, e2⟩ := s_hs_ex (cN_1 s2).2.1
    obtain ⟨u, u1, u2⟩ := x_placeOf h4 hk (fun q hq => (h8 q hq).1) (nI (sn P w g k ρ n))
    simp only
    rw [u1, o_bs]
    have hu : u = nI p := by
      rcases u2 with ⟨p', hp', hpf, hpb, rfl⟩ | ⟨ha, rfl⟩
      · have : ¬ nI (ρ p') ≠ nI (sn P w g k ρ n) := of_decide_eq_false hpf
        have := nI_inj (by have := (h8 p' hp').2; omega) (by omega) (Decidable.of_not_not this)
        rw [hj p' p hp' hp (this.trans e1.symm)]
      · have := ha p hp
        unfold pl_f at this
        exact absurd (by rw [e1]) (of_decide_eq_true this)
    have hsb : sb A p = true := by rw [hkp p hp]; exact e2
    obtain ⟨d1, d2⟩ := and_dec A (by omega) p (by omega) hsb
    rw [hu, d1, nI_1]
    refine wp_inl ⟨rfl, ⟨A - 2 ^ p, rfl, by omega, fun q hq => ?_⟩, fun n' e => ?_⟩
    · rw [sub_rs hk hj (by omega) hp hsb q hq, e1, sk_s]
      exact rsK_congr hkp q hq
    · have : n' = n := by omega
      rw [this]
  · obtain ⟨a, a', a'', m1⟩ := x
    obtain ⟨e, ⟨A, rfl, hA, hkp⟩, i3⟩ := hI
    obtain ⟨rfl, rfl⟩ := Prod.mk.inj e
    simp only at i3 ⊢
    unfold f_X5_sale_L11b
    rw [if_pos ((nI_ltI (by omega) (by omega)).mpr (by omega)), i3 K rfl]
    exact wp_inr rfl
-- the reference
theorem m_lwo {G N : Nat} {m : ej_M} (hN : N ≤ 8) (hk : k ≤ 8) (hG : G < 256) (hK : MK P w g N m) (h4 : m.1 41 4 = nI k) (h8 : ∀ q, q < k → m.1 43 q = nI (ρ q) ∧ ρ q < N) :
    oj_wp (f_X11_isLawfulWithout (nI G) m) fun q => q.1 = (if lfK P w g k ρ (fun p => !(sb G (ρ p))) = true then 1 else 0) ∧ oj_sm SE m q.2 := by
  unfold f_X11_isLawfulWithout
  refine wp_bind (wp_mono (m_without (kp := fun p => !(sb G (ρ p))) h4 hk (fun q hq => (h8 q hq).1) (fun q hq => ?_)) fun q hq => ?_)
  · have := (h8 q hq).2
    rw [sb_1 (by omega) (by omega)]
    simp
  obtain ⟨q1, q2, q3⟩ := hq
  have hle := s_cn_le (fun p => !(sb G (ρ p))) k
  refine wp_bind (wp_mono (mk_all (ρ := s_rw (fun p => !(sb G (ρ p))) ρ k) (MK_go hN (sm_SE q1) hK) hN (by omega) q2 (fun p hp => ⟨q3 p hp, s_rw_lt k (fun q hq => (h8 q hq).2) p hp⟩)) fun r hr => ?_)
  have hs : oj_sm SE m r.2 := sm_trans q1 (sm_mono hr.2 fun a j x => by unfold MC at x; unfold SE; omega)
  rw [hr.1]
  unfold lfK
  by_cases hl : LWf P w g (s_cn (fun p => !(sb G (ρ p))) k) (s_rw (fun p => !(sb G (ρ p))) ρ k) = true
  · rw [if_pos hl]; exact wp_eq (rz_1 r.2) ⟨rfl, hs⟩
  · rw [if_neg hl]; exact wp_eq (rz_0 r.2) ⟨rfl, hs⟩
def kG (ρ : Nat → Nat) (G p : Nat) : Bool := !(sb G (ρ p))
/-- one stone more gone -/
theorem kG_add {G s N : Nat} (hN : N ≤ 8) (hρ : ∀ q, q < k → ρ q < N) (hG : G < 256) (hs : s < 8) (h : ¬ sb G s = true) : ∀ q, q < k → kG ρ (G + 2 ^ s) q = rsK ρ (kG ρ G) s q := fun q hq => by
  have := hρ q hq
  unfold kG rsK
  rw [sb_add G hG s hs h _ (by omega)]
  by_cases e : ρ q = s
  · rw [decide_eq_true e, decide_eq_false (p := ρ q ≠ s) (fun z => z e), Bool.or_true, Bool.and_false]; rfl
  · rw [decide_eq_false e, decide_eq_true (p := ρ q ≠ s) e, Bool.or_false, Bool.and_true]
/-- the reference's table, from G on -/
def TM (P : Option (List (List Int32 × List Int32))) (w : Nat → Int32) (g : Int32) (k : Nat) (ρ : Nat → Nat) (U G : Nat) (m : ej_M) : Prop := ∀ H, G ≤ H → H < 256 → nI H &&& (nI U ^^^ (-1)) = 0 → m.1 59 H = nI (MV P w g k ρ (kG ρ H))
def sFM (a j : Nat) : Prop := SE a j ∨ a = 59
theorem m_mostIn {G N U : Nat} {m : ej_M} (hN : N ≤ 8) (hk : k ≤ 8) (hG : G < 256) (hU : U < 256) (hUs : ∀ s, s < 8 → (sb U s = true ↔ ∃ p, p < k ∧ ρ p = s)) (hGU : nI G &&& (nI U ^^^ (-1)) = 0) (hK : MK P w g N m) (h1 : m.1 41 1 = nI N) (h4 : m.1 41 4 = nI k) (h8 : ∀ q, q < k → m.1 43 q = nI (ρ q) ∧ ρ q < N) (hT : TM P w g k ρ U (G + 1) m) (h0 : m.1 59 G = 0) :
    oj_wp (f_X11_findMost_L33 (nI U) (nI G) 0 m) (oj_k (fun s => s.1 = nI G + (-1) ∧ oj_sm sFM m s.2 ∧ TM P w g k ρ U G s.2) fun _ => False) := by
  unfold f_X11_findMost_L33
  have hgood : ∀ s, s < 8 → sb U s = true → ¬ sb G s = true → nI (G + 2 ^ s) &&& (nI U ^^^ (-1)) = 0 := fun s hs hu hg => by
    rw [← (or_dec G hG s hs hg).1, nb_dist, hGU, in_dec U hU s hs hu]
    rfl
  have hst : ∀ s, s < 8 → sb U s = true → ¬ sb G s = true → s_hs (kG ρ G) s k ρ = true := fun s hs hu hg => by
    obtain ⟨p, hp, e⟩ := (hUs s hs).mp hu
    rw [← e]
    refine s_hs_mk hp ?_
    unfold kG
    rw [e]
    simpa using hg
  refine wp_loop (fun s (x : Int32 × ej_M) => x.1 = nI s ∧ oj_sm sFM m x.2 ∧ TM P w g k ρ U (G + 1) x.2 ∧ ∃ r, x.2.1 59 G = nI r ∧ r ≤ 8 ∧ MX (cK P w g k ρ (kG ρ G)) (fun s => MV P w g k ρ (rsK ρ (kG ρ G) s) + 1) s r) N (by unfold oj_FU; omega) (fun s x hs hI => ?_) (fun x hI => ?_) (i0 := 0) (by omega) ⟨rfl, sm_refl, hT, 0, h0, by decide, fun i hi => absurd hi (Nat.not_lt_zero _), Or.inl rfl⟩
  · obtain ⟨a, m1⟩ := x
    obtain ⟨rfl, i1, i2, r, r1, r2, r3⟩ := hI
    simp only at i1 i2 r1 ⊢
    -- s isn't counted
    have skip : ∀ m2 : ej_M, oj_sm sFM m m2 → TM P w g k ρ U (G + 1) m2 → m2.1 59 G = nI r → (cK P w g k ρ (kG ρ G) s = true → MV P w g k ρ (rsK ρ (kG ρ G) s) + 1 ≤ r) → oj_wp (some (Sum.inl (nI s + 1, m2) : (Int32 × ej_M) ⊕ ((Int32 × ej_M) ⊕ (Unit × ej_M)))) (oj_k (fun x => x.1 = nI (s + 1) ∧ oj_sm sFM m x.2 ∧ TM P w g k ρ U (G + 1) x.2 ∧ ∃ r, x.2.1 59 G = nI r ∧ r ≤ 8 ∧ MX (cK P w g k ρ (kG ρ G)) (fun s => MV P w g k ρ (rsK ρ (kG ρ G) s) + 1) (s + 1) r) (oj_k (fun s => s.1 = nI G + (-1) ∧ oj_sm sFM m s.2 ∧ TM P w g k ρ U G s.2) fun _ => False)) := fun m2 a1 a2 a3 a4 => by
      refine wp_inl ⟨nI_1 s, a1, a2, r, a3, r2, fun i hi hc => ?_, r3.2.imp id ?_⟩
      · by_cases e : i = s
        · rw [e] at hc ⊢; exact a4 hc
        · exact r3.1 i (by omega) hc
      · rintro ⟨i, x, y⟩
        exact ⟨i, by omega, y⟩
    unfold f_X11_findMost_L33b
    rw [i1.2 41 1 (by unfold sFM SE; omega), h1, if_neg (fun q => by have := (nI_leI (by omega) (by omega)).mp q; omega)]
    by_cases eu : sb U s = true
    · rw [if_neg (fun q => ((sb_0 (by omega) (by omega)).mp q) eu)]
      by_cases eg : sb G s = true
      · rw [or_same G hG s (by omega) eg, if_pos rfl]
        refine skip m1 i1 i2 r1 fun hc => ?_
        unfold cK at hc
        cases hx : s_hs (kG ρ G) s k ρ with
        | false => rw [hx, Bool.false_and] at hc; cases hc
        | true =>
          obtain ⟨p, hp, e1, e2⟩ := s_hs_ex hx
          unfold kG at e2
          rw [e1, eg] at e2; cases e2
      · obtain ⟨d1, d2⟩ := or_dec G hG s (by omega) eg
        have hpw : 0 < 2 ^ s := Nat.pow_pos (by decide)
        rw [d1, if_neg (fun q => by have := nI_inj (by omega) (by omega) q; omega)]
        have hadd := kG_add (k := k) (ρ := ρ) hN (fun q hq => (h8 q hq).2) hG (by omega : s < 8) eg
        have hs1 : oj_sm SM m m1 := sm_mono i1 fun a j q => by unfold sFM SE at q; unfold SM; omega
        refine wp_bind (wp_mono (m_lwo (ρ := ρ) hN hk d2 (MK_go hN hs1 hK) ((i1.2 41 4 (by unfold sFM SE; omega)).trans h4) (fun q hq => ⟨(i1.2 43 q (by unfold sFM SE; omega)).trans (h8 q hq).1, (h8 q hq).2⟩)) fun q hq => ?_)
        obtain ⟨q1, q2⟩ := hq
        have hs2 : oj_sm sFM m q.2 := sm_trans i1 (sm_mono q2 fun a j z => Or.inl z)
        have hT2 : TM P w g k ρ U (G + 1) q.2 := fun H a1 a2 a3 => (q2.2 59 H (by unfold SE; omega)).trans (i2 H a1 a2 a3)
        have hr1 : q.2.1 59 G = nI r := (q2.2 59 G (by unfold SE; omega)).trans r1
        have c1 : lfK P w g k ρ (fun p => !(sb (G + 2 ^ s) (ρ p))) = lfK P w g k ρ (rsK ρ (kG ρ G) s) := lfK_congr hadd
        have c2 : MV P w g k ρ (kG ρ (G + 2 ^ s)) = MV P w g k ρ (rsK ρ (kG ρ G) s) := MV_congr hadd
        have hM := MV_8 (P := P) (w := w) (g := g) (ρ := ρ) hk (rsK ρ (kG ρ G) s)
        rw [c1] at q1
        have e59 : q.2.1 59 (G + 2 ^ s) = nI (MV P w g k ρ (rsK ρ (kG ρ G) s)) := by rw [hT2 _ (by omega) d2 (hgood s (by omega) eu eg), c2]
        by_cases hl : lfK P w g k ρ (rsK ρ (kG ρ G) s) = true
        · have hc : cK P w g k ρ (kG ρ G) s = true := by unfold cK; rw [hst s (by omega) eu eg, hl]; rfl
          have hMG := MV_8 (P := P) (w := w) (g := g) (ρ := ρ) hk (kG ρ G)
          have hin := (MV_MX (P := P) (w := w) (g := g) (ρ := ρ) hk (kG ρ G)).1 s (by omega) hc
          simp only at hin
          rw [q1, if_pos hl, if_neg i10, oj_ar_ld ar_59 (by omega), o_bs, oj_ar_ld ar_59 (by omega), o_bs, e59, hr1, show (1 : Int32) + nI (MV P w g k ρ (rsK ρ (kG ρ G) s)) = nI (MV P w g k ρ (rsK ρ (kG ρ G) s) + 1) by rw [Int32.add_comm, nI_1]]
          by_cases e2 : MV P w g k ρ (rsK ρ (kG ρ G) s) + 1 ≤ r
          · rw [if_pos ((nI_leI (by omega) (by omega)).mpr e2)]
            exact skip q.2 hs2 hT2 hr1 fun _ => e2
          · rw [if_neg (fun z => e2 ((nI_leI (by omega) (by omega)).mp z)), o_bs, show (1 : Int32) + nI (MV P w g k ρ (rsK ρ (kG ρ G) s)) = nI (MV P w g k ρ (rsK ρ (kG ρ G) s) + 1) by rw [Int32.add_comm, nI_1], oj_ar_st ar_59 (by omega), o_bs, nI_1]
            refine wp_inl ⟨rfl, sm_trans hs2 (sm_a fun j => Or.inr rfl), fun H a1 a2 a3 => ?_, MV P w g k ρ (rsK ρ (kG ρ G) s) + 1, ?_, by omega, fun i hi hc' => ?_, Or.inr ⟨s, by omega, hc, rfl⟩⟩
            · simp only
              rw [oj_row_s]
              unfold upd
              rw [if_neg (by omega)]
              exact hT2 H a1 a2 a3
            · simp only
              rw [oj_row_s]
              unfold upd
              rw [if_pos rfl]
            · by_cases e : i = s
              · rw [e]; exact Nat.le_refl _
              · have := r3.1 i (by omega) hc'
                simp only at this ⊢
                omega
        · rw [q1, if_neg hl, if_pos rfl]
          refine skip q.2 hs2 hT2 hr1 fun hc => ?_
          unfold cK at hc
          have hlf : lfK P w g k ρ (rsK ρ (kG ρ G) s) = false := by simpa using hl
          rw [hlf, Bool.and_false] at hc; cases hc
    · rw [if_pos ((sb_0 (by omega) (by omega)).mpr eu)]
      refine skip m1 i1 i2 r1 fun hc => ?_
      unfold cK at hc
      cases hx : s_hs (kG ρ G) s k ρ with
      | false => rw [hx, Bool.false_and] at hc; cases hc
      | true =>
        obtain ⟨p, hp, e1, e2⟩ := s_hs_ex hx
        exact absurd ((hUs s (by omega)).mpr ⟨p, hp, e1⟩) eu
  · obtain ⟨a, m1⟩ := x
    obtain ⟨rfl, i1, i2, r, r1, r2, r3⟩ := hI
    simp only at i1 i2 r1 ⊢
    unfold f_X11_findMost_L33b
    rw [i1.2 41 1 (by unfold sFM SE; omega), h1, if_pos (Int32.le_refl _)]
    refine wp_inr ⟨rfl, i1, fun H a1 a2 a3 => ?_⟩
    by_cases e : H = G
    · rw [e]
      simp only
      rw [r1]
      have : MX (cK P w g k ρ (kG ρ G)) (fun s => MV P w g k ρ (rsK ρ (kG ρ G) s) + 1) 8 r := by
        refine ⟨fun i hi hc => ?_, r3.2.imp id ?_⟩
        · refine r3.1 i ?_ hc
          unfold cK at hc
          cases hx : s_hs (kG ρ G) i k ρ with
          | false => rw [hx, Bool.false_and] at hc; cases hc
          | true =>
            obtain ⟨p, hp, e1, e2⟩ := s_hs_ex hx
            rw [← e1]; exact (h8 p hp).2
        · rintro ⟨i, x, y⟩
          exact ⟨i, by omega, y⟩
      rw [MX_eq this (MV_MX hk (kG ρ G))]
    · exact i2 H (by omega) a2 a3
theorem m_most {N U : Nat} {m : ej_M} (hN : N ≤ 8) (hk : k ≤ 8) (hU : U < 256) (hUs : ∀ s, s < 8 → (sb U s = true ↔ ∃ p, p < k ∧ ρ p = s)) (hK : MK P w g N m) (h1 : m.1 41 1 = nI N) (h4 : m.1 41 4 = nI k) (h8 : ∀ q, q < k → m.1 43 q = nI (ρ q) ∧ ρ q < N) :
    oj_wp (f_X11_findMost_L9 (nI U) 255 m) fun q => oj_sm sFM m q.2 ∧ TM P w g k ρ U 0 q.2 := by
  unfold f_X11_findMost_L9
  refine wp_loop (fun t (x : Int32 × ej_M) => x.1 = nI (256 - t) - 1 ∧ oj_sm sFM m x.2 ∧ TM P w g k ρ U (256 - t) x.2) 256 (by decide) (fun t x ht hI => ?_) (fun x hI => ?_) (i0 := 0) (by decide) ⟨show (255 : Int32) = nI (256 - 0) - 1 by decide, sm_refl, fun H a1 a2 => by omega⟩
  · obtain ⟨a, m1⟩ := x
    obtain ⟨rfl, i1, i2⟩ := hI
    simp only at i1 i2 ⊢
    obtain ⟨G, hG⟩ : ∃ G, 256 - t = G + 1 := ⟨255 - t, by omega⟩
    rw [hG] at i2 ⊢
    rw [nI_pred]
    unfold f_X11_findMost_L9b
    rw [if_neg (nI_pos (by omega)), oj_ar_st ar_59 (by omega), o_bs]
    have hs : oj_sm sFM m (oj_row m1 59 (upd (m1.1 59) G 0)) := sm_trans i1 (sm_a fun j => Or.inr rfl)
    have hT : TM P w g k ρ U (G + 1) (oj_row m1 59 (upd (m1.1 59) G 0)) := fun H a1 a2 a3 => by
      rw [oj_row_s]
      unfold upd
      rw [if_neg (by omega)]
      exact i2 H a1 a2 a3
    have h0 : (oj_row m1 59 (upd (m1.1 59) G 0)).1 59 G = 0 := by
      rw [oj_row_s]
      unfold upd
      rw [if_pos rfl]
    have hG1 : nI G + (-1) = nI (256 - (t + 1)) - 1 := by
      rw [show 256 - (t + 1) = G by omega, Int32.sub_eq_add_neg]
    by_cases e : nI G &&& (nI U ^^^ (-1)) = 0
    · rw [if_pos e]
      have hs1 : oj_sm SM m (oj_row m1 59 (upd (m1.1 59) G 0)) := sm_mono hs fun a j q => by unfold sFM SE at q; unfold SM; omega
      refine wp_mono (m_mostIn (ρ := ρ) hN hk (by omega) hU hUs e (MK_go hN hs1 hK) ((hs.2 41 1 (by unfold sFM SE; omega)).trans h1) ((hs.2 41 4 (by unfold sFM SE; omega)).trans h4) (fun q hq => ⟨(hs.2 43 q (by unfold sFM SE; omega)).trans (h8 q hq).1, (h8 q hq).2⟩) hT h0) fun x hx => ?_
      rcases x with s | x
      · obtain ⟨x1, x2, x3⟩ := hx
        exact ⟨x1.trans hG1, sm_trans hs x2, by rw [show 256 - (t + 1) = G by omega]; exact x3⟩
      · exact absurd hx id
    · rw [if_neg e]
      refine wp_inl ⟨hG1, hs, fun H a1 a2 a3 => ?_⟩
      by_cases e2 : H = G
      · rw [e2] at a3; exact absurd a3 e
      · exact hT H (by omega) a2 a3
  · obtain ⟨a, m1⟩ := x
    obtain ⟨rfl, i1, i2⟩ := hI
    simp only at i1 i2 ⊢
    unfold f_X11_findMost_L9b
    rw [if_pos (by decide)]
    exact wp_inr ⟨i1, i2⟩
theorem m_next {G N U n s : Nat} {m : ej_M} (hN : N ≤ 8) (hk : k ≤ 8) (hG : G < 256) (hs : s < 8) (hGU : nI G &&& (nI U ^^^ (-1)) = 0) (hU : U < 256) (hUs : ∀ s, s < 8 → (sb U s = true ↔ ∃ p, p < k ∧ ρ p = s)) (hj : ∀ p q, p < k → q < k → ρ p = ρ q → p = q) (hK : MK P w g N m) (h4 : m.1 41 4 = nI k) (h8 : ∀ q, q < k → m.1 43 q = nI (ρ q) ∧ ρ q < N) (hT : TM P w g k ρ U 0 m) (hkp : ∀ q, q < k → kG ρ G q = sk P w g k ρ n q) :
    oj_wp (f_X11_isNextSale (nI G) (nI s) m) fun q => q.1 = (if cN P w g k ρ (sk P w g k ρ n) s = true then 1 else 0) ∧ oj_sm SE m q.2 := by
  obtain ⟨U', u1, u2, u3⟩ := m_standing h4 hk (fun q hq => ⟨(h8 q hq).1, by have := (h8 q hq).2; omega⟩) hj
  have hno : ∀ m2 : ej_M, oj_sm SE m m2 → ¬ cN P w g k ρ (sk P w g k ρ n) s = true → oj_wp (some ((0 : Int32), m2)) fun q => q.1 = (if cN P w g k ρ (sk P w g k ρ n) s = true then 1 else 0) ∧ oj_sm SE m q.2 := fun m2 a1 a2 => by
    rw [if_neg a2]; exact wp_some ⟨rfl, a1⟩
  have hcong : cN P w g k ρ (sk P w g k ρ n) s = cN P w g k ρ (kG ρ G) s := (cN_congr hkp).symm
  unfold f_X11_isNextSale
  rw [u1, o_bs]
  simp only
  by_cases eu : sb U' s = true
  · have eU : sb U s = true := (hUs s hs).mpr ((u3 s hs).mp eu)
    rw [if_pos ((sb_1 (by omega) (by omega)).mpr eu)]
    by_cases eg : sb G s = true
    · rw [or_same G hG s hs eg, if_pos rfl]
      refine hno m sm_refl fun h => ?_
      rw [hcong] at h
      obtain ⟨p, hp, e1, e2⟩ := s_hs_ex (cN_1 h).2.1
      unfold kG at e2
      rw [e1, eg] at e2; cases e2
    · obtain ⟨d1, d2⟩ := or_dec G hG s hs eg
      have hpw : 0 < 2 ^ s := Nat.pow_pos (by decide)
      rw [d1, if_neg (fun q => by have := nI_inj (by omega) (by omega) q; omega)]
      have hadd := kG_add (k := k) (ρ := ρ) hN (fun q hq => (h8 q hq).2) hG hs eg
      refine wp_bind (wp_mono (m_lwo (ρ := ρ) hN hk d2 hK h4 h8) fun q hq => ?_)
      obtain ⟨q1, q2⟩ := hq
      have c1 : lfK P w g k ρ (fun p => !(sb (G + 2 ^ s) (ρ p))) = lfK P w g k ρ (rsK ρ (kG ρ G) s) := lfK_congr hadd
      have c2 : MV P w g k ρ (kG ρ (G + 2 ^ s)) = MV P w g k ρ (rsK ρ (kG ρ G) s) := MV_congr hadd
      have hM := MV_8 (P := P) (w := w) (g := g) (ρ := ρ) hk (rsK ρ (kG ρ G) s)
      have hMG := MV_8 (P := P) (w := w) (g := g) (ρ := ρ) hk (kG ρ G)
      have hgood : nI (G + 2 ^ s) &&& (nI U ^^^ (-1)) = 0 := by
        rw [← d1, nb_dist, hGU, in_dec U hU s hs eU]
        rfl
      rw [c1] at q1
      by_cases hl : lfK P w g k ρ (rsK ρ (kG ρ G) s) = true
      · rw [q1, if_pos hl, if_neg i10, oj_ar_ld ar_59 (by omega), o_bs, oj_ar_ld ar_59 (by omega), o_bs, q2.2 59 _ (by unfold SE; omega), q2.2 59 _ (by unfold SE; omega), hT _ (by omega) d2 hgood, hT _ (by omega) hG hGU, c2, show (1 : Int32) + nI (MV P w g k ρ (rsK ρ (kG ρ G) s)) = nI (MV P w g k ρ (rsK ρ (kG ρ G) s) + 1) by rw [Int32.add_comm, nI_1]]
        by_cases e2 : MV P w g k ρ (rsK ρ (kG ρ G) s) + 1 = MV P w g k ρ (kG ρ G)
        · rw [if_pos (by rw [e2])]
          have hc : cN P w g k ρ (sk P w g k ρ n) s = true := by
            rw [hcong]
            obtain ⟨p, hp, e⟩ := (hUs s hs).mp eU
            have hst : s_hs (kG ρ G) s k ρ = true := by
              rw [← e]
              refine s_hs_mk hp ?_
              unfold kG
              rw [e]
              simpa using eg
            unfold cN cK
            rw [hst, hl, decide_eq_true e2]
            rfl
          rw [if_pos hc]
          exact wp_some ⟨rfl, q2⟩
        · rw [if_neg (fun z => e2 (nI_inj (by omega) (by omega) z))]
          exact hno q.2 q2 fun h => by rw [hcong] at h; exact e2 (cN_1 h).2.2.2
      · rw [q1, if_neg hl, if_pos rfl]
        exact hno q.2 q2 fun h => by rw [hcong] at h; exact hl (cN_1 h).2.2.1
  · rw [if_neg (fun q => eu ((sb_1 (by omega) (by omega)).mp q))]
    refine hno m sm_refl fun h => ?_
    rw [hcong] at h
    obtain ⟨p, hp, e1, e2⟩ := s_hs_ex (cN_1 h).2.1
    exact eu ((u3 s hs).mpr ⟨p, hp, e1⟩)
theorem m_sold {K N U : Nat} {m : ej_M} (hN : N ≤ 8) (hk : k ≤ 8) (hU : U < 256) (hUs : ∀ s, s < 8 → (sb U s = true ↔ ∃ p, p < k ∧ ρ p = s)) (hj : ∀ p q, p < k → q < k → ρ p = ρ q → p = q) (hK : MK P w g N m) (h4 : m.1 41 4 = nI k) (h8 : ∀ q, q < k → m.1 43 q = nI (ρ q) ∧ ρ q < N) (hT : TM P w g k ρ U 0 m) (hKM : K < MV P w g k ρ (sk P w g k ρ 0)) :
    oj_wp (f_X11_soldOn_L43 (nI K) 0 (-2) 0 m) fun q => q.1 = nI (sn P w g k ρ K) ∧ oj_sm SE m q.2 := by
  have hM := MV_8 (P := P) (w := w) (g := g) (ρ := ρ) hk (sk P w g k ρ 0)
  unfold f_X11_soldOn_L43
  refine wp_loop (fun n (x : Int32 × Int32 × Int32 × ej_M) => x.2.2.1 = nI n ∧ oj_sm SE m x.2.2.2 ∧ (∃ G, x.1 = nI G ∧ G < 256 ∧ nI G &&& (nI U ^^^ (-1)) = 0 ∧ ∀ q, q < k → kG ρ G q = sk P w g k ρ n q) ∧ (∀ n', n = n' + 1 → x.2.1 = nI (sn P w g k ρ n'))) (K + 1) (by unfold oj_FU; omega) (fun n x hn hI => ?_) (fun x hI => ?_) (i0 := 0) (by omega) ⟨rfl, sm_refl, ⟨0, rfl, by decide, by rw [show nI 0 = (0 : Int32) from rfl]; exact Int32.zero_and, fun q hq => by unfold kG; rw [sb_hi (Nat.pow_pos (by decide))]; rfl⟩, fun n' e => by omega⟩
  · obtain ⟨a, a', a'', m1⟩ := x
    obtain ⟨rfl, i1, ⟨G, rfl, hG, hGU, hkp⟩, i3⟩ := hI
    simp only at i1 ⊢
    have hMn := sk_MV (P := P) (w := w) (g := g) (ρ := ρ) hk n (by omega)
    obtain ⟨s1, s2, s3⟩ := sn_sp (P := P) (w := w) (g := g) (ρ := ρ) hk (n := n) (by omega)
    unfold f_X11_soldOn_L43b
    rw [if_neg (fun q => by have := (nI_ltI (by omega) (by omega)).mp q; omega)]
    unfold f_X11_soldOn_L51
    have hin : ∀ s, s < 8 → s ≤ sn P w g k ρ n → ∀ m2 : ej_M, oj_sm SE m m2 → oj_wp (f_X11_isNextSale (nI G) (nI s) m2) fun q => q.1 = (if cN P w g k ρ (sk P w g k ρ n) s = true then 1 else 0) ∧ oj_sm SE m q.2 := fun s hs _ m2 hs2 =>
      wp_mono (m_next (ρ := ρ) (n := n) hN hk hG hs hGU hU hUs hj (MK_go hN (sm_SE hs2) hK) ((hs2.2 41 4 (by unfold SE; omega)).trans h4) (fun q hq => ⟨(hs2.2 43 q (by unfold SE; omega)).trans (h8 q hq).1, (h8 q hq).2⟩) (fun H a1 a2 a3 => (hs2.2 59 H (by unfold SE; omega)).trans (hT H a1 a2 a3)) hkp) fun q hq => ⟨hq.1, sm_trans hs2 hq.2⟩
    refine wp_loop (fun s (x : Int32 × ej_M) => x.1 = nI s ∧ oj_sm SE m x.2) (sn P w g k ρ n) (by unfold oj_FU; omega) (fun s x hs hI => ?_) (fun x hI => ?_) (i0 := 0) (by omega) ⟨rfl, i1⟩
    · obtain ⟨b, m2⟩ := x
      obtain ⟨rfl, j1⟩ := hI
      simp only at j1 ⊢
      unfold f_X11_soldOn_L51b
      refine wp_bind (wp_mono (hin s (by omega) (by omega) m2 j1) fun q hq => ?_)
      rw [hq.1, s3 s hs, if_neg (show ¬ (false = true) by decide), if_pos rfl, nI_1]
      exact wp_inl ⟨rfl, hq.2⟩
    · obtain ⟨b, m2⟩ := x
      obtain ⟨rfl, j1⟩ := hI
      simp only at j1 ⊢
      unfold f_X11_soldOn_L51b
      refine wp_bind (wp_mono (hin _ s1 (Nat.le_refl _) m2 j1) fun q hq => ?_)
      rw [hq.1, if_pos s2, if_neg i10, nI_1]
      -- the stone is gone now
      obtain ⟨p, hp, e1, e2⟩ := s_hs_ex (cN_1 s2).2.1
      have eg : ¬ sb G (sn P w g k ρ n) = true := fun z => by
        rw [← hkp p hp] at e2
        unfold kG at e2
        rw [e1, z] at e2; cases e2
      obtain ⟨d1, d2⟩ := or_dec G hG _ s1 eg
      have eU : sb U (sn P w g k ρ n) = true := (hUs _ s1).mpr ⟨p, hp, e1⟩
      refine wp_inr ⟨rfl, hq.2, ⟨G + 2 ^ sn P w g k ρ n, d1, d2, ?_, fun r hr => ?_⟩, fun n' e => ?_⟩
      · rw [← d1, nb_dist, hGU, in_dec U hU _ s1 eU]
        rfl
      · rw [kG_add (k := k) (ρ := ρ) hN (fun q hq => (h8 q hq).2) hG s1 eg r hr, sk_s]
        exact rsK_congr hkp r hr
      · have : n' = n := by omega
        rw [this]
  · obtain ⟨a, a', a'', m1⟩ := x
    obtain ⟨rfl, i1, ⟨G, rfl, hG, hGU, hkp⟩, i3⟩ := hI
    simp only at i1 i3 ⊢
    unfold f_X11_soldOn_L43b
    rw [if_pos ((nI_ltI (by omega) (by omega)).mpr (by omega)), i3 K rfl]
    exact wp_inr ⟨rfl, i1⟩
end SO3
theorem op_soldOn (v : Int32) : OP (f_X10_soldOn v) (f_X11_soldOn v) := by
  by_cases hv : -1 ≤ v
  · refine OP_ask fun L xs n k ρ P nb b m hI hC hb => ?_
    obtain ⟨h1, h2, h3, h4, h5, h6, h7, h8, h9, h10, h11, h12, h13, h14, h15⟩ := id hI.1
    have hk8 : k ≤ 8 := by omega
    have hx8 : ∀ q, q < k → m.1 8 q = nI (ρ q) ∧ ρ q < 8 := fun q hq => ⟨(h8 q hq).1, by have := (h8 q hq).2.2; omega⟩
    have hM0 : MV P (m.1 7) (m.1 6 5) k ρ (sb (2 ^ k - 1)) = MV P (m.1 7) (m.1 6 5) k ρ (sk P (m.1 7) (m.1 6 5) k ρ 0) := MV_congr fun q hq => sb_all k (by omega) q hq
    have hM8 := MV_8 (P := P) (w := m.1 7) (g := m.1 6 5) (ρ := ρ) hk8 (sk P (m.1 7) (m.1 6 5) k ρ 0)
    unfold f_X10_soldOn
    rw [if_pos hv]
    refine wp_bind (wp_mono (x_most (ρ := ρ) hk8 (IV_XK hI) (by unfold oST at hb; omega) hC h5 hx8 h9) fun q hq => ?_)
    obtain ⟨q1, q2, q3, q4⟩ := hq
    rw [hM0] at q1
    have hsX : oj_sm SX m q.2 := sm_mono q2 fun a j z => by unfold XC at z; unfold SX; omega
    have hCq : CB P (b + oST) q.2 := CB_le q4 (by unfold oST; omega)
    have hM : ∀ m', IV L xs n k ρ P nb m' → oj_sm SX m m' → oj_wp (f_X11_soldOn v m') fun r => r.1 = (if v = -1 then nI (MV P (m.1 7) (m.1 6 5) k ρ (sk P (m.1 7) (m.1 6 5) k ρ 0)) else if nI (MV P (m.1 7) (m.1 6 5) k ρ (sk P (m.1 7) (m.1 6 5) k ρ 0)) ≤ v then -2 else nI (sn P (m.1 7) (m.1 6 5) k ρ v.toNatClampNeg)) ∧ oj_sm SM m' r.2 := fun m' hI' hs => by
      obtain ⟨g1, g2, g3, g4, g5, g6, g7, g8, g9, g10, g11, g12, g13, g14, g15⟩ := id hI'.1
      have hMK := IV_MK hI' hs
      have hm8 : ∀ q, q < k → m'.1 43 q = nI (ρ q) ∧ ρ q < n := fun q hq => (g8 q hq).2
      obtain ⟨U, u1, u2, u3⟩ := m_standing g6 hk8 (fun q hq => ⟨(hm8 q hq).1, by have := (hm8 q hq).2; omega⟩) g9
      unfold f_X11_soldOn f_X11_findMost
      rw [if_pos hv, u1, o_bs]
      simp only
      refine wp_bind (wp_mono (m_most (ρ := ρ) g1 hk8 u2 u3 hMK g4 g6 hm8) fun r hr => ?_)
      obtain ⟨r1, r2⟩ := hr
      have hsM : oj_sm SM m' r.2 := sm_mono r1 fun a j z => by unfold sFM SE at z; unfold SM; omega
      have e0 : r.2.1 59 0 = nI (MV P (m.1 7) (m.1 6 5) k ρ (sk P (m.1 7) (m.1 6 5) k ρ 0)) := by
        rw [r2 0 (Nat.le_refl _) (by decide) (by rw [show nI 0 = (0 : Int32) from rfl]; exact Int32.zero_and)]
        rw [MV_congr (kp := kG ρ 0) (kp' := sk P (m.1 7) (m.1 6 5) k ρ 0) fun q hq => by unfold kG; rw [sb_hi (Nat.pow_pos (by decide))]; rfl]
      have hld : oj_ld 0 r.2 59 0 = some (nI (MV P (m.1 7) (m.1 6 5) k ρ (sk P (m.1 7) (m.1 6 5) k ρ 0))) := by
        rw [show oj_ld 0 r.2 59 0 = some (r.2.1 59 0) from oj_ar_ld (k := 0) ar_59 (by decide) r.2, e0]
      by_cases e : v = -1
      · rw [if_neg (by rw [e]; decide), hld, o_bs, if_pos e]
        exact wp_some ⟨rfl, hsM⟩
      · have h0 : 0 ≤ v := by
          rw [Int32.le_iff_toInt_le] at hv ⊢
          have e2 : v.toInt ≠ (-1 : Int32).toInt := fun q => e (Int32.toInt_inj.mp q)
          rw [show (-1 : Int32).toInt = -1 by decide] at hv e2
          rw [show (0 : Int32).toInt = 0 by decide]
          omega
        obtain ⟨K, hK, rfl⟩ := nI_of (Int32.not_lt.mpr h0)
        rw [if_pos h0, hld, o_bs, if_neg e, nI_clamp hK]
        by_cases e2 : K < MV P (m.1 7) (m.1 6 5) k ρ (sk P (m.1 7) (m.1 6 5) k ρ 0)
        · rw [if_pos ((nI_ltI hK (by omega)).mpr e2), if_neg (fun z => by have := (nI_leI (by omega) hK).mp z; omega)]
          refine wp_mono (m_sold (ρ := ρ) g1 hk8 u2 u3 g9 (MK_go g1 hsM hMK) ((hsM.2 41 4 (by unfold SM; omega)).trans g6) (fun q hq => ⟨(hsM.2 43 q (by unfold SM; omega)).trans (hm8 q hq).1, (hm8 q hq).2⟩) r2 e2) fun z hz => ⟨hz.1, sm_trans hsM (sm_SE hz.2)⟩
        · rw [if_neg (fun z => e2 ((nI_ltI hK (by omega)).mp z)), if_pos ((nI_leI (by omega) hK).mpr (by omega))]
          exact wp_some ⟨rfl, hsM⟩
    by_cases e : v = -1
    · rw [if_pos e, q1]
      exact wp_some ⟨hsX, hCq, fun m' hI' hs => wp_mono (hM m' hI' hs) fun r hr => ⟨by rw [hr.1, if_pos e], hr.2⟩⟩
    · rw [if_neg e, q1]
      by_cases e2 : nI (MV P (m.1 7) (m.1 6 5) k ρ (sk P (m.1 7) (m.1 6 5) k ρ 0)) ≤ v
      · rw [if_pos e2]
        exact wp_some ⟨hsX, hCq, fun m' hI' hs => wp_mono (hM m' hI' hs) fun r hr => ⟨by rw [hr.1, if_neg e, if_pos e2], hr.2⟩⟩
      · rw [if_neg e2]
        have h0 : ¬ v < 0 := fun z => by
          rw [Int32.le_iff_toInt_le] at hv
          have e3 : v.toInt ≠ (-1 : Int32).toInt := fun q => e (Int32.toInt_inj.mp q)
          rw [Int32.lt_iff_toInt_lt] at z
          rw [show (-1 : Int32).toInt = -1 by decide] at hv e3
          rw [show (0 : Int32).toInt = 0 by decide] at z
          omega
        obtain ⟨K, hK, rfl⟩ := nI_of h0
        have hKM : K < MV P (m.1 7) (m.1 6 5) k ρ (sk P (m.1 7) (m.1 6 5) k ρ 0) := by
          by_cases z : K < MV P (m.1 7) (m.1 6 5) k ρ (sk P (m.1 7) (m.1 6 5) k ρ 0)
          · exact z
          · exact absurd ((nI_leI (by omega) hK).mpr (by omega)) e2
        rw [x_sale (ρ := ρ) hk8 h9 (fun q' hq' => ⟨(hsX.2 8 q' (by unfold SX; omega)).trans (hx8 q' hq').1, (hx8 q' hq').2⟩) ((hsX.2 6 4 (by unfold SX; omega)).trans h5) q3 hKM, o_bs]
        exact wp_some ⟨hsX, hCq, fun m' hI' hs => wp_mono (hM m' hI' hs) fun r hr => ⟨by rw [hr.1, if_neg e, if_neg e2, nI_clamp hK], hr.2⟩⟩
  · refine OP_no (v := -1) (fun m => ?_) (fun m => ?_)
    · unfold f_X10_soldOn
      rw [if_neg hv]
    · unfold f_X11_soldOn
      rw [if_neg hv]
