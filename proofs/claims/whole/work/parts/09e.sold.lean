/-! soldOn -/
theorem or_dec : ∀ U, U < 256 → ∀ s, s < 8 → ¬ sb U s = true → nI U ||| ((1 : Int32) <<< (nI s &&& 31)) = nI (U + 2 ^ s) ∧ U + 2 ^ s < 256 := by decide +kernel
theorem or_same : ∀ U, U < 256 → ∀ s, s < 8 → sb U s = true → nI U ||| ((1 : Int32) <<< (nI s &&& 31)) = nI U := by decide +kernel
theorem sb_add : ∀ U, U < 256 → ∀ s, s < 8 → ¬ sb U s = true → ∀ r, r < 8 → sb (U + 2 ^ s) r = (sb U r || decide (r = s)) := by decide +kernel
theorem sb_sub : ∀ A, A < 256 → ∀ p, p < 8 → sb A p = true → ∀ q, q < 8 → sb (A - 2 ^ p) q = (sb A q && decide (q ≠ p)) := by decide +kernel
theorem and_dec : ∀ A, A < 256 → ∀ p, p < 8 → sb A p = true → nI A &&& (((1 : Int32) <<< (nI p &&& 31)) ^^^ (-1)) = nI (A - 2 ^ p) ∧ A - 2 ^ p < A := by decide +kernel
theorem in_dec : ∀ U, U < 256 → ∀ s, s < 8 → sb U s = true → ((1 : Int32) <<< (nI s &&& 31)) &&& (nI U ^^^ (-1)) = 0 := by decide +kernel
theorem sb_all : ∀ k, k < 9 → ∀ q, q < k → sb (2 ^ k - 1) q = true := by decide
theorem nb_dist (a b c : Int32) : (a ||| b) &&& c = (a &&& c) ||| (b &&& c) := by
  apply Int32.toBitVec_inj.1
  show (a.toBitVec ||| b.toBitVec) &&& c.toBitVec = (a.toBitVec &&& c.toBitVec) ||| (b.toBitVec &&& c.toBitVec)
  apply BitVec.eq_of_getLsbD_eq
  intro i hi
  simp only [BitVec.getLsbD_and, BitVec.getLsbD_or]
  cases a.toBitVec.getLsbD i <;> cases b.toBitVec.getLsbD i <;> cases c.toBitVec.getLsbD i <;> rfl
-- the stones that stand, as bits
theorem m_standing {m : ej_M} {k : Nat} {ρ : Nat → Nat} (h4 : m.1 41 4 = nI k) (hk : k ≤ 8) (hρ : ∀ q, q < k → m.1 43 q = nI (ρ q) ∧ ρ q < 8) (hj : ∀ p q, p < k → q < k → ρ p = ρ q → p = q) : ∃ U, f_X11_standing m = some (nI U, m) ∧ U < 256 ∧ ∀ s, s < 8 → (sb U s = true ↔ ∃ p, p < k ∧ ρ p = s) := by
  have : oj_wp (f_X11_standing m) fun q => q.2 = m ∧ ∃ U, q.1 = nI U ∧ U < 256 ∧ ∀ s, s < 8 → (sb U s = true ↔ ∃ p, p < k ∧ ρ p = s) := by
    unfold f_X11_standing f_X11_standing_L4
    refine wp_loop (fun i (x : Int32 × Int32 × ej_M) => x.2 = (nI i, m) ∧ ∃ U, x.1 = nI U ∧ U < 256 ∧ ∀ s, s < 8 → (sb U s = true ↔ ∃ p, p < i ∧ ρ p = s)) k (by unfold oj_FU; omega) (fun i x hi hI => ?_) (fun x hI => ?_) (i0 := 0) (by omega) ⟨rfl, 0, rfl, by decide, fun s hs => ⟨fun h => absurd h (by rw [sb_hi (i := s) (Nat.pow_pos (by decide))]; decide), fun ⟨p, hp, _⟩ => absurd hp (Nat.not_lt_zero _)⟩⟩
    · obtain ⟨a, a'⟩ := x
      obtain ⟨rfl, U, rfl, h1, h2⟩ := hI
      simp only
      unfold f_X11_standing_L4b
      rw [h4, if_neg (fun q => by have := (nI_leI (by omega) (by omega)).mp q; omega), oj_ar_ld ar_43 (by omega), o_bs, (hρ i hi).1, nI_1]
      have hn : ¬ sb U (ρ i) = true := fun q => by
        obtain ⟨p, hp, e⟩ := (h2 _ (hρ i hi).2).mp q
        have := hj p i (by omega) hi e
        omega
      obtain ⟨d1, d2⟩ := or_dec U h1 (ρ i) (hρ i hi).2 hn
      refine wp_inl ⟨rfl, U + 2 ^ ρ i, d1, d2, fun s hs => ?_⟩
      rw [sb_add U h1 _ (hρ i hi).2 hn s hs]
      constructor
      · intro h
        by_cases e : s = ρ i
        · exact ⟨i, by omega, e.symm⟩
        · rw [decide_eq_false e, Bool.or_false] at h
          obtain ⟨p, hp, e2⟩ := (h2 s hs).mp h
          exact ⟨p, by omega, e2⟩
      · rintro ⟨p, hp, e⟩
        by_cases e2 : p = i
        · rw [decide_eq_true (by rw [← e, e2]), Bool.or_true]
        · rw [(h2 s hs).mpr ⟨p, by omega, e⟩, Bool.true_or]
    · obtain ⟨a, a'⟩ := x
      obtain ⟨rfl, U, rfl, h1, h2⟩ := hI
      simp only
      unfold f_X11_standing_L4b
      rw [h4, if_pos (Int32.le_refl _)]
      exact wp_inr ⟨rfl, U, rfl, h1, h2⟩
  obtain ⟨⟨v, m'⟩, e1, e2, U, e3, e4, e5⟩ := this
  simp only at e2 e3
  exact ⟨U, by rw [e1, e2, e3], e4, e5⟩
-- the greatest of some
def mx (c : Nat → Bool) (v : Nat → Nat) : Nat → Nat
  | 0 => 0
  | i + 1 => if c i = true then max (mx c v i) (v i) else mx c v i
def MX (c : Nat → Bool) (v : Nat → Nat) (n r : Nat) : Prop := (∀ i, i < n → c i = true → v i ≤ r) ∧ (r = 0 ∨ ∃ i, i < n ∧ c i = true ∧ v i = r)
theorem mx_MX (c : Nat → Bool) (v : Nat → Nat) : ∀ n, MX c v n (mx c v n) := by
  intro n
  induction n with
  | zero => exact ⟨fun i hi => absurd hi (Nat.not_lt_zero _), Or.inl rfl⟩
  | succ n ih =>
    obtain ⟨h1, h2⟩ := ih
    unfold mx
    by_cases e : c n = true
    · rw [if_pos e]
      refine ⟨fun i hi hc => ?_, ?_⟩
      · by_cases e2 : i = n
        · rw [e2]; exact Nat.le_max_right _ _
        · exact Nat.le_trans (h1 i (by omega) hc) (Nat.le_max_left _ _)
      · by_cases e2 : v n ≤ mx c v n
        · rw [Nat.max_eq_left e2]
          rcases h2 with h2 | ⟨i, a, b, d⟩
          · exact Or.inl h2
          · exact Or.inr ⟨i, by omega, b, d⟩
        · rw [Nat.max_eq_right (by omega)]
          exact Or.inr ⟨n, by omega, e, rfl⟩
    · rw [if_neg e]
      refine ⟨fun i hi hc => ?_, ?_⟩
      · by_cases e2 : i = n
        · rw [e2] at hc; exact absurd hc e
        · exact h1 i (by omega) hc
      · rcases h2 with h2 | ⟨i, a, b, d⟩
        · exact Or.inl h2
        · exact Or.inr ⟨i, by omega, b, d⟩
theorem MX_eq {c : Nat → Bool} {v : Nat → Nat} {n r r' : Nat} (h : MX c v n r) (h' : MX c v n r') : r = r' := by
  obtain ⟨a1, a2⟩ := h
  obtain ⟨b1, b2⟩ := h'
  have : r ≤ r' := by
    rcases a2 with a2 | ⟨i, x, y, z⟩
    · omega
    · rw [← z]; exact b1 i x y
  have : r' ≤ r := by
    rcases b2 with b2 | ⟨i, x, y, z⟩
    · omega
    · rw [← z]; exact a1 i x y
  omega
theorem MX_congr {c c' : Nat → Bool} {v v' : Nat → Nat} {n r : Nat} (hc : ∀ i, i < n → c i = c' i) (hv : ∀ i, i < n → c i = true → v i = v' i) (h : MX c v n r) : MX c' v' n r := by
  obtain ⟨a1, a2⟩ := h
  refine ⟨fun i hi k => ?_, a2.imp id ?_⟩
  · rw [← hc i hi] at k
    rw [← hv i hi k]; exact a1 i hi k
  · rintro ⟨i, x, y, z⟩
    exact ⟨i, x, by rw [← hc i x]; exact y, by rw [← hv i x y]; exact z⟩
-- places that are left
theorem s_cn_congr {kp kp' : Nat → Bool} : ∀ k, (∀ q, q < k → kp q = kp' q) → s_cn kp k = s_cn kp' k := by
  intro k
  induction k with
  | zero => intro _; rfl
  | succ k ih =>
    intro h
    unfold s_cn
    rw [h k (by omega), ih fun q hq => h q (by omega)]
theorem s_rw_congr {kp kp' : Nat → Bool} {ρ : Nat → Nat} : ∀ k, (∀ q, q < k → kp q = kp' q) → s_rw kp ρ k = s_rw kp' ρ k := by
  intro k
  induction k with
  | zero => intro _; funext q; rfl
  | succ k ih =>
    intro h
    funext q
    unfold s_rw
    rw [h k (by omega), s_cn_congr k fun q hq => h q (by omega), ih fun q hq => h q (by omega)]
theorem s_cn_lt {kp kp' : Nat → Bool} : ∀ k, (∀ q, q < k → kp' q = true → kp q = true) → (s_cn kp' k ≤ s_cn kp k) ∧ ∀ p, p < k → kp p = true → ¬ kp' p = true → s_cn kp' k < s_cn kp k := by
  intro k
  induction k with
  | zero => intro _; exact ⟨Nat.le_refl _, fun p hp => absurd hp (Nat.not_lt_zero _)⟩
  | succ k ih =>
    intro h
    obtain ⟨h1, h2⟩ := ih fun q hq => h q (by omega)
    by_cases e : kp' k = true
    · rw [s_cn_s1 e, s_cn_s1 (h k (by omega) e)]
      refine ⟨by omega, fun p hp a b => ?_⟩
      by_cases e2 : p = k
      · rw [e2] at b; exact absurd e b
      · have := h2 p (by omega) a b; omega
    · rw [s_cn_s0 e]
      by_cases e1 : kp k = true
      · rw [s_cn_s1 e1]
        exact ⟨by omega, fun p hp a b => by omega⟩
      · rw [s_cn_s0 e1]
        refine ⟨h1, fun p hp a b => ?_⟩
        by_cases e2 : p = k
        · rw [e2] at a; exact absurd a e1
        · exact h2 p (by omega) a b
def lfK (P : Option (List (List Int32 × List Int32))) (w : Nat → Int32) (g : Int32) (k : Nat) (ρ : Nat → Nat) (kp : Nat → Bool) : Bool := LWf P w g (s_cn kp k) (s_rw kp ρ k)
def rsK (ρ : Nat → Nat) (kp : Nat → Bool) (s q : Nat) : Bool := kp q && decide (ρ q ≠ s)
def mo (P : Option (List (List Int32 × List Int32))) (w : Nat → Int32) (g : Int32) (k : Nat) (ρ : Nat → Nat) : Nat → (Nat → Bool) → Nat
  | 0, _ => 0
  | f + 1, kp => mx (fun s => s_hs kp s k ρ && lfK P w g k ρ (rsK ρ kp s)) (fun s => mo P w g k ρ f (rsK ρ kp s) + 1) 8
section SO
variable {P : Option (List (List Int32 × List Int32))} {w : Nat → Int32} {g : Int32} {k : Nat} {ρ : Nat → Nat}
theorem s_hs_ex {f : Nat → Bool} {s : Nat} (h : s_hs f s k ρ = true) : ∃ p, p < k ∧ ρ p = s ∧ f p = true := by
  unfold s_hs at h
  by_cases e : ∃ p, p < k ∧ ρ p = s ∧ f p = true
  · exact e
  · have : lwA (fun p => !(decide (ρ p = s) && f p)) k = true := by
      unfold lwA
      refine decide_eq_true fun p hp => ?_
      by_cases e1 : ρ p = s
      · have : f p = false := by
          cases hf : f p with
          | false => rfl
          | true => exact absurd ⟨p, hp, e1, hf⟩ e
        show (!(decide (ρ p = s) && f p)) = true
        rw [this, Bool.and_false]; rfl
      · show (!(decide (ρ p = s) && f p)) = true
        rw [decide_eq_false e1, Bool.false_and]; rfl
    rw [this] at h; cases h
theorem s_hs_mk {f : Nat → Bool} {p : Nat} (hp : p < k) (hf : f p = true) : s_hs f (ρ p) k ρ = true := by
  unfold s_hs lwA
  rw [decide_eq_false]
  · rfl
  · intro q
    have := q p hp
    simp [hf] at this
theorem lfK_congr {kp kp' : Nat → Bool} (h : ∀ q, q < k → kp q = kp' q) : lfK P w g k ρ kp = lfK P w g k ρ kp' := by
  unfold lfK
  rw [s_cn_congr k h, s_rw_congr k h]
theorem rsK_congr {kp kp' : Nat → Bool} {s : Nat} (h : ∀ q, q < k → kp q = kp' q) : ∀ q, q < k → rsK ρ kp s q = rsK ρ kp' s q := fun q hq => by
  unfold rsK
  rw [h q hq]
theorem s_hs_congr {f f' : Nat → Bool} {s : Nat} (h : ∀ q, q < k → f q = f' q) : s_hs f s k ρ = s_hs f' s k ρ := by
  unfold s_hs
  rw [lwA_congr fun p hp => by rw [h p hp]]
theorem mo_congr : ∀ (f : Nat) (kp kp' : Nat → Bool), (∀ q, q < k → kp q = kp' q) → mo P w g k ρ f kp = mo P w g k ρ f kp' := by
  intro f
  induction f with
  | zero => intro kp kp' _; rfl
  | succ f ih =>
    intro kp kp' h
    unfold mo
    exact MX_eq (mx_MX _ _ _) (MX_congr (fun i _ => by rw [s_hs_congr h, lfK_congr (rsK_congr h)]) (fun i _ _ => by rw [ih _ _ (rsK_congr h)]) (mx_MX _ _ _))
theorem rsK_cn {kp : Nat → Bool} {s : Nat} (h : s_hs kp s k ρ = true) : s_cn (rsK ρ kp s) k < s_cn kp k := by
  obtain ⟨p, hp, e, hk⟩ := s_hs_ex h
  refine (s_cn_lt (kp := kp) (kp' := rsK ρ kp s) k fun q _ hq => ?_).2 p hp hk ?_
  · unfold rsK at hq
    cases hkq : kp q with
    | true => rfl
    | false => rw [hkq, Bool.false_and] at hq; cases hq
  · unfold rsK
    rw [decide_eq_false (fun z => z e), Bool.and_false]
    decide
theorem mo_stop : ∀ (f f' : Nat) (kp : Nat → Bool), s_cn kp k ≤ f → s_cn kp k ≤ f' → mo P w g k ρ f kp = mo P w g k ρ f' kp := by
  have zero : ∀ (f : Nat) (kp : Nat → Bool), s_cn kp k = 0 → mo P w g k ρ f kp = 0 := fun f kp h => by
    cases f with
    | zero => rfl
    | succ f =>
      unfold mo
      refine MX_eq (mx_MX _ _ _) ⟨fun i _ hc => ?_, Or.inl rfl⟩
      have hc' : (s_hs kp i k ρ && lfK P w g k ρ (rsK ρ kp i)) = true := hc
      have : s_hs kp i k ρ = true := by
        cases hx : s_hs kp i k ρ with
        | true => rfl
        | false => rw [hx, Bool.false_and] at hc'; cases hc'
      have := rsK_cn this
      omega
  intro f
  induction f with
  | zero => intro f' kp h1 h2; rw [zero 0 kp (by omega), zero f' kp (by omega)]
  | succ f ih =>
    intro f' kp h1 h2
    cases f' with
    | zero => rw [zero _ kp (by omega), zero 0 kp (by omega)]
    | succ f' =>
      unfold mo
      refine MX_eq (mx_MX _ _ _) (MX_congr (fun i _ => rfl) (fun i _ hc => ?_) (mx_MX _ _ _))
      have hc' : (s_hs kp i k ρ && lfK P w g k ρ (rsK ρ kp i)) = true := hc
      have : s_hs kp i k ρ = true := by
        cases hx : s_hs kp i k ρ with
        | true => rfl
        | false => rw [hx, Bool.false_and] at hc'; cases hc'
      have := rsK_cn this
      rw [ih f' _ (by omega) (by omega)]
end SO
def MV (P : Option (List (List Int32 × List Int32))) (w : Nat → Int32) (g : Int32) (k : Nat) (ρ : Nat → Nat) (kp : Nat → Bool) : Nat := mo P w g k ρ 9 kp
def cK (P : Option (List (List Int32 × List Int32))) (w : Nat → Int32) (g : Int32) (k : Nat) (ρ : Nat → Nat) (kp : Nat → Bool) (s : Nat) : Bool := s_hs kp s k ρ && lfK P w g k ρ (rsK ρ kp s)
section SO2
variable {P : Option (List (List Int32 × List Int32))} {w : Nat → Int32} {g : Int32} {k : Nat} {ρ : Nat → Nat}
theorem MV_MX (hk : k ≤ 8) (kp : Nat → Bool) : MX (cK P w g k ρ kp) (fun s => MV P w g k ρ (rsK ρ kp s) + 1) 8 (MV P w g k ρ kp) := by
  have h : MX (cK P w g k ρ kp) (fun s => mo P w g k ρ 8 (rsK ρ kp s) + 1) 8 (mo P w g k ρ 9 kp) := mx_MX _ _ 8
  refine MX_congr (fun i _ => rfl) (fun i _ hc => ?_) h
  have : s_hs kp i k ρ = true := by
    unfold cK at hc
    cases hx : s_hs kp i k ρ with
    | true => rfl
    | false => rw [hx, Bool.false_and] at hc; cases hc
  have h1 := rsK_cn this
  have h2 := s_cn_le kp k
  unfold MV
  rw [mo_stop 8 9 _ (by omega) (by omega)]
theorem MV_congr {kp kp' : Nat → Bool} (h : ∀ q, q < k → kp q = kp' q) : MV P w g k ρ kp = MV P w g k ρ kp' := mo_congr 9 kp kp' h
theorem cK_congr {kp kp' : Nat → Bool} {s : Nat} (h : ∀ q, q < k → kp q = kp' q) : cK P w g k ρ kp s = cK P w g k ρ kp' s := by
  unfold cK
  rw [s_hs_congr h, lfK_congr (rsK_congr h)]
theorem MV_le (hk : k ≤ 8) : ∀ n (kp : Nat → Bool), s_cn kp k ≤ n → MV P w g k ρ kp ≤ n := by
  intro n
  induction n with
  | zero =>
    intro kp h
    obtain ⟨a1, a2⟩ := MV_MX (P := P) (w := w) (g := g) (ρ := ρ) hk kp
    rcases a2 with a2 | ⟨i, x, y, z⟩
    · omega
    · have : s_hs kp i k ρ = true := by
        unfold cK at y
        cases hx : s_hs kp i k ρ with
        | true => rfl
        | false => rw [hx, Bool.false_and] at y; cases y
      have := rsK_cn this
      omega
  | succ n ih =>
    intro kp h
    obtain ⟨a1, a2⟩ := MV_MX (P := P) (w := w) (g := g) (ρ := ρ) hk kp
    rcases a2 with a2 | ⟨i, x, y, z⟩
    · omega
    · have : s_hs kp i k ρ = true := by
        unfold cK at y
        cases hx : s_hs kp i k ρ with
        | true => rfl
        | false => rw [hx, Bool.false_and] at y; cases y
      have := rsK_cn this
      have := ih (rsK ρ kp i) (by omega)
      have z' : MV P w g k ρ (rsK ρ kp i) + 1 = MV P w g k ρ kp := z
      omega
theorem MV_8 (hk : k ≤ 8) (kp : Nat → Bool) : MV P w g k ρ kp ≤ 8 := MV_le hk 8 kp (by have := s_cn_le kp k; omega)
/-- a place taken out is its stone taken out -/
theorem sub_rs (hk : k ≤ 8) (hj : ∀ p q, p < k → q < k → ρ p = ρ q → p = q) {A p : Nat} (hA : A < 256) (hp : p < k) (h : sb A p = true) : ∀ q, q < k → sb (A - 2 ^ p) q = rsK ρ (sb A) (ρ p) q := fun q hq => by
  rw [sb_sub A hA p (by omega) h q (by omega)]
  unfold rsK
  by_cases e : q = p
  · rw [decide_eq_false (p := q ≠ p) (fun z => z e), decide_eq_false (p := ρ q ≠ ρ p) (fun z => z (by rw [e]))]
  · rw [decide_eq_true (p := q ≠ p) e, decide_eq_true (p := ρ q ≠ ρ p) (fun z => e (hj q p hq hp z))]
-- the class
theorem x_left2 {b A : Nat} {m : ej_M} (hk : k ≤ 8) (hA : A < 256) (hK : XK P w g m) (hb : b + 1 < 2 ^ 28) (hC : CB P b m) (h4 : m.1 6 4 = nI k) (h8 : ∀ q, q < k → m.1 8 q = nI (ρ q) ∧ ρ q < 8) :
    oj_wp (f_X5_isLawful (nI A) m) fun q => q.1 = (if lfK P w g k ρ (sb A) = true then 1 else 0) ∧ oj_sm (fun a j => XC a j ∨ a = 27) m q.2 ∧ CB P (b + 1) q.2 := by
  unfold f_X5_isLawful f_X5_isLawful_L4
  refine wp_loop (fun i (s : Int32 × Int32 × ej_M) => s.1 = nI (s_cn (sb A) i) ∧ s.2.1 = nI i ∧ oj_sm (fun a _ => a = 27) m s.2.2 ∧ ∀ j, j < s_cn (sb A) i → s.2.2.1 27 j = nI (s_rw (sb A) ρ i j)) k (by unfold oj_FU; omega) (fun i s hi hI => ?_) (fun s hI => ?_) (i0 := 0) (by omega) ⟨rfl, rfl, sm_refl, fun j hj => absurd hj (Nat.not_lt_zero _)⟩
  · obtain ⟨a, a', m'⟩ := s
    obtain ⟨rfl, rfl, i1, i2⟩ := hI
    simp only at i1 i2 ⊢
    have hle := s_cn_le (sb A) i
    unfold f_X5_isLawful_L4b
    rw [i1.2 6 4 (by omega), h4, if_neg (fun q => by have := (nI_leI (by omega) (by omega)).mp q; omega)]
    by_cases e : sb A i = true
    · rw [if_neg (fun q => ((sb_0 (by omega) (by omega)).mp q) e), p_at1 ar_8 (by omega), o_bs, i1.2 8 i (by omega), (h8 i hi).1]
      simp only
      rw [p_lay1 ar_27 (by omega), o_bs, nI_1, nI_1]
      refine wp_inl ⟨by rw [s_cn_s1 e], rfl, sm_trans i1 (sm_a fun j => rfl), fun j hj => ?_⟩
      rw [s_cn_s1 e] at hj
      simp only
      rw [oj_row_s]
      unfold upd
      by_cases e2 : j = s_cn (sb A) i
      · rw [if_pos e2, e2, s_rw_s1 e]
      · rw [if_neg e2, s_rw_s0 (fun z => e2 z.2)]; exact i2 j (by omega)
    · rw [if_pos ((sb_0 (by omega) (by omega)).mpr e), nI_1]
      refine wp_inl ⟨by rw [s_cn_s0 e], rfl, i1, fun j hj => ?_⟩
      rw [s_cn_s0 e] at hj
      rw [s_rw_s0 (fun z => e z.1)]; exact i2 j hj
  · obtain ⟨a, a', m1⟩ := s
    obtain ⟨rfl, rfl, i1, i2⟩ := hI
    simp only at i1 i2 ⊢
    have hle := s_cn_le (sb A) k
    unfold f_X5_isLawful_L4b
    rw [i1.2 6 4 (by omega), h4, if_pos (Int32.le_refl _)]
    have hs1 : oj_sm SX m m1 := sm_mono i1 fun a j q => by unfold SX; omega
    refine wp_bind (wp_mono (xk_allC (n := s_cn (sb A) k) (ρ := s_rw (sb A) ρ k) (b := b + 1) (XK_go hs1 hK) (CB_N (CB_fr i1 hC (fun i => by omega) (by omega) (by omega) (fun i hi => by omega)) _) hb (by omega) ar_27 (by omega) (fun p hp => ⟨i2 p hp, s_rw_lt k (fun q hq => (h8 q hq).2) p hp⟩) (by decide)) fun r hr => ?_)
    obtain ⟨r1, r2, r3⟩ := hr
    have hs : oj_sm (fun a j => XC a j ∨ a = 27) m r.2 := sm_trans (sm_mono i1 fun a j q => Or.inr q) (sm_mono r2 fun a j q => Or.inl q)
    rw [r1]
    unfold lfK
    by_cases hl : LWf P w g (s_cn (sb A) k) (s_rw (sb A) ρ k) = true
    · rw [if_pos hl, rz_1]; exact wp_inr ⟨rfl, hs, CN_B r3⟩
    · rw [if_neg hl, rz_0]; exact wp_inr ⟨rfl, hs, CN_B r3⟩
/-- the table of what is further possible, below A -/
def TX (P : Option (List (List Int32 × List Int32))) (w : Nat → Int32) (g : Int32) (k : Nat) (ρ : Nat → Nat) (A : Nat) (m : ej_M) : Prop := ∀ B, B < A → m.1 26 B = if lfK P w g k ρ (sb B) = true then nI (MV P w g k ρ (sb B)) else -1
theorem x_from {A : Nat} {m : ej_M} (hk : k ≤ 8) (hA : A < 256) (hj : ∀ p q, p < k → q < k → ρ p = ρ q → p = q) (hρ : ∀ q, q < k → ρ q < 8) (h4 : m.1 6 4 = nI k) (hT : TX P w g k ρ A m) : f_X5_mostFrom (nI A) m = some (nI (MV P w g k ρ (sb A)), m) := by
  unfold f_X5_mostFrom f_X5_mostFrom_L4
  have step : ∀ p, p < k → sb A p = true → (s_hs (sb A) (ρ p) k ρ = true) ∧ lfK P w g k ρ (sb (A - 2 ^ p)) = lfK P w g k ρ (rsK ρ (sb A) (ρ p)) ∧ MV P w g k ρ (sb (A - 2 ^ p)) = MV P w g k ρ (rsK ρ (sb A) (ρ p)) := fun p hp h => ⟨s_hs_mk hp h, lfK_congr (sub_rs hk hj hA hp h), MV_congr (sub_rs hk hj hA hp h)⟩
  refine wp_get ?_
  refine wp_loop (fun i (s : Int32 × Int32 × ej_M) => s.2 = (nI i, m) ∧ ∃ r, s.1 = nI r ∧ r ≤ 8 ∧ (∀ p, p < i → sb A p = true → lfK P w g k ρ (rsK ρ (sb A) (ρ p)) = true → MV P w g k ρ (rsK ρ (sb A) (ρ p)) + 1 ≤ r) ∧ (r = 0 ∨ ∃ p, p < i ∧ sb A p = true ∧ lfK P w g k ρ (rsK ρ (sb A) (ρ p)) = true ∧ MV P w g k ρ (rsK ρ (sb A) (ρ p)) + 1 = r)) k (by unfold oj_FU; omega) (fun i s hi hI => ?_) (fun s hI => ?_) (i0 := 0) (by omega) ⟨rfl, 0, rfl, by decide, fun p hp => absurd hp (Nat.not_lt_zero _), Or.inl rfl⟩
  · obtain ⟨a, a'⟩ := s
    obtain ⟨rfl, r, rfl, r1, r2, r3⟩ := hI
    simp only
    unfold f_X5_mostFrom_L4b
    rw [h4, if_neg (fun q => by have := (nI_leI (by omega) (by omega)).mp q; omega)]
    by_cases e : sb A i = true
    · obtain ⟨d1, d2⟩ := and_dec A hA i (by omega) e
      obtain ⟨s1, s2, s3⟩ := step i hi e
      rw [if_pos ((sb_1 (by omega) (by omega)).mpr e), d1, p_at1 ar_26 (by omega), o_bs, hT _ d2, s2, s3, nI_1]
      simp only
      have hM := MV_8 (P := P) (w := w) (g := g) (ρ := ρ) hk (rsK ρ (sb A) (ρ i))
      have hMA := MV_8 (P := P) (w := w) (g := g) (ρ := ρ) hk (sb A)
      by_cases hl : lfK P w g k ρ (rsK ρ (sb A) (ρ i)) = true
      · rw [if_pos hl, nI_1]
        have hin : MV P w g k ρ (rsK ρ (sb A) (ρ i)) + 1 ≤ MV P w g k ρ (sb A) := (MV_MX hk (sb A)).1 (ρ i) (hρ i hi) (by unfold cK; rw [s1, hl]; rfl)
        by_cases e2 : r < MV P w g k ρ (rsK ρ (sb A) (ρ i)) + 1
        · rw [if_pos ((nI_ltI (by omega) (by omega)).mpr e2)]
          refine wp_inl ⟨rfl, _, rfl, by omega, fun p hp h1 h2 => ?_, Or.inr ⟨i, by omega, e, hl, rfl⟩⟩
          by_cases e3 : p = i
          · rw [e3]; exact Nat.le_refl _
          · have := r2 p (by omega) h1 h2; omega
        · rw [if_neg (fun q => e2 ((nI_ltI (by omega) (by omega)).mp q))]
          refine wp_inl ⟨rfl, r, rfl, r1, fun p hp h1 h2 => ?_, r3.imp id ?_⟩
          · by_cases e3 : p = i
            · rw [e3]; omega
            · exact r2 p (by omega) h1 h2
          · rintro ⟨p, x, y⟩
            exact ⟨p, by omega, y⟩
      · rw [if_neg hl, show (-1 : Int32) + 1 = 0 by decide, if_neg (nI_pos (by omega))]
        refine wp_inl ⟨rfl, r, rfl, r1, fun p hp h1 h2 => ?_, r3.imp id ?_⟩
        · by_cases e3 : p = i
          · rw [e3] at h2; exact absurd h2 hl
          · exact r2 p (by omega) h1 h2
        · rintro ⟨p, x, y⟩
          exact ⟨p, by omega, y⟩
    · rw [if_neg (fun q => e ((sb_1 (by omega) (by omega)).mp q)), nI_1]
      refine wp_inl ⟨rfl, r, rfl, r1, fun p hp h1 h2 => ?_, r3.imp id ?_⟩
      · by_cases e3 : p = i
        · rw [e3] at h1; exact absurd h1 e
        · exact r2 p (by omega) h1 h2
      · rintro ⟨p, x, y⟩
        exact ⟨p, by omega, y⟩
  · obtain ⟨a, a'⟩ := s
    obtain ⟨rfl, r, rfl, r1, r2, r3⟩ := hI
    simp only
    unfold f_X5_mostFrom_L4b
    rw [h4, if_pos (Int32.le_refl _)]
    refine wp_inr ?_
    have : r = MV P w g k ρ (sb A) := by
      refine MX_eq (c := cK P w g k ρ (sb A)) (v := fun s => MV P w g k ρ (rsK ρ (sb A) s) + 1) (n := 8) ⟨fun s hs hc => ?_, r3.imp id ?_⟩ (MV_MX hk (sb A))
      · unfold cK at hc
        cases hx : s_hs (sb A) s k ρ with
        | false => rw [hx, Bool.false_and] at hc; cases hc
        | true =>
          rw [hx, Bool.true_and] at hc
          obtain ⟨p, hp, e1, e2⟩ := s_hs_ex hx
          rw [← e1] at hc ⊢
          exact r2 p hp e2 hc
      · rintro ⟨p, x, y, z, u⟩
        exact ⟨ρ p, hρ p x, by unfold cK; rw [s_hs_mk x y, z]; rfl, u⟩
    rw [this]
theorem TX_go {S : Nat → Nat → Prop} {A : Nat} {m m' : ej_M} (hs : oj_sm S m m') (h : ∀ j, ¬ S 26 j) (hT : TX P w g k ρ A m) : TX P w g k ρ A m' := fun B hB => (hs.2 26 B (h B)).trans (hT B hB)
theorem x_most {b : Nat} {m : ej_M} (hk : k ≤ 8) (hK : XK P w g m) (hb : b + 256 < 2 ^ 28) (hC : CB P b m) (h4 : m.1 6 4 = nI k) (h8 : ∀ q, q < k → m.1 8 q = nI (ρ q) ∧ ρ q < 8) (hj : ∀ p q, p < k → q < k → ρ p = ρ q → p = q) :
    oj_wp (f_X5_most m) fun q => q.1 = nI (MV P w g k ρ (sb (2 ^ k - 1))) ∧ oj_sm (fun a j => XC a j ∨ a = 27 ∨ a = 26) m q.2 ∧ TX P w g k ρ (2 ^ k - 1) q.2 ∧ CB P (b + 256) q.2 := by
  have h256 := pw_8 hk
  have hpos : 0 < 2 ^ k := Nat.pow_pos (by decide)
  unfold f_X5_most f_X5_all
  rw [h4, sl_pow k (by omega), o_bs, nI_m1 (by omega)]
  simp only
  unfold f_X5_most_L7
  refine wp_loop (fun A (s : Int32 × ej_M) => s.1 = nI A ∧ oj_sm (fun a j => XC a j ∨ a = 27 ∨ a = 26) m s.2 ∧ TX P w g k ρ A s.2 ∧ CB P (b + A) s.2) (2 ^ k - 1) (by unfold oj_FU; omega) (fun A s hA hI => ?_) (fun s hI => ?_) (i0 := 0) (by omega) ⟨rfl, sm_refl, fun B hB => absurd hB (Nat.not_lt_zero _), hC⟩
  · obtain ⟨a, m1⟩ := s
    obtain ⟨rfl, i1, i2, i3⟩ := hI
    simp only at i1 i2 i3 ⊢
    have hsX : ∀ {m2 : ej_M}, oj_sm (fun a j => XC a j ∨ a = 27 ∨ a = 26) m m2 → oj_sm SX m m2 := fun {m2} h => sm_mono h fun a j q => by unfold XC at q; unfold SX; omega
    have e4 : ∀ {m2 : ej_M}, oj_sm (fun a j => XC a j ∨ a = 27 ∨ a = 26) m m2 → m2.1 6 4 = nI k := fun {m2} h => (h.2 6 4 (by unfold XC; omega)).trans h4
    unfold f_X5_most_L7b
    rw [if_neg (fun q => by have := (nI_leI (by omega) (by omega)).mp q; omega)]
    refine wp_bind (wp_mono (x_left2 (ρ := ρ) (A := A) hk (by omega) (XK_go (hsX i1) hK) (by omega) i3 (e4 i1) (fun q hq => ⟨(i1.2 8 q (by unfold XC; omega)).trans (h8 q hq).1, (h8 q hq).2⟩)) fun q hq => ?_)
    obtain ⟨q1, q2, q3⟩ := hq
    have hs2 : oj_sm (fun a j => XC a j ∨ a = 27 ∨ a = 26) m q.2 := sm_trans i1 (sm_mono q2 fun a j z => by unfold XC at z ⊢; omega)
    have hT2 := TX_go (A := A) q2 (fun j => by unfold XC; omega) i2
    have fin : ∀ v : Int32, v = (if lfK P w g k ρ (sb A) = true then nI (MV P w g k ρ (sb A)) else -1) → oj_wp (f_X5_most_B34 (nI (2 ^ k - 1)) (nI A) v (nI A) q.2) (oj_k (fun s => s.1 = nI (A + 1) ∧ oj_sm (fun a j => XC a j ∨ a = 27 ∨ a = 26) m s.2 ∧ TX P w g k ρ (A + 1) s.2 ∧ CB P (b + (A + 1)) s.2) fun q => q.1 = nI (MV P w g k ρ (sb (2 ^ k - 1))) ∧ oj_sm (fun a j => XC a j ∨ a = 27 ∨ a = 26) m q.2 ∧ TX P w g k ρ (2 ^ k - 1) q.2 ∧ CB P (b + 256) q.2) := fun v hv => by
      unfold f_X5_most_B34
      rw [p_lay1 ar_26 (by omega), o_bs, nI_1]
      have hs3 : oj_sm (fun a _ => a = 26) q.2 (oj_row q.2 26 (upd (q.2.1 26) A v)) := sm_a fun j => rfl
      refine wp_inl ⟨rfl, sm_trans hs2 (sm_mono hs3 fun a j z => by omega), fun B hB => ?_, CB_fr hs3 q3 (fun i => by omega) (by omega) (by omega) (fun i hi => by omega)⟩
      simp only
      rw [oj_row_s]
      unfold upd
      by_cases e : B = A
      · rw [if_pos e, e]; exact hv
      · rw [if_neg e]; exact hT2 B (by omega)
    by_cases hl : lfK P w g k ρ (sb A) = true
    · rw [q1, if_pos hl, if_neg i10, x_from (ρ := ρ) hk (by omega) hj (fun q hq => (h8 q hq).2) (e4 hs2) hT2, o_bs]
      exact fin _ (by rw [if_pos hl])
    · rw [q1, if_neg hl, if_pos rfl]
      exact fin _ (by rw [if_neg hl])
  · obtain ⟨a, m1⟩ := s
    obtain ⟨rfl, i1, i2, i3⟩ := hI
    simp only at i1 i2 i3 ⊢
    unfold f_X5_most_L7b
    rw [if_pos (Int32.le_refl _), x_from (ρ := ρ) hk (by omega) hj (fun q hq => (h8 q hq).2) ((i1.2 6 4 (by unfold XC; omega)).trans h4) i2, o_bs]
    exact wp_inr ⟨rfl, i1, i2, CB_le i3 (by omega)⟩
end SO2
