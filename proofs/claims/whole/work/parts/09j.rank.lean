/-! fewest: ranks -/
theorem s_cn_add {f g : Nat → Bool} {a : Nat} (ha : f a = false) (h : ∀ s, g s = (f s || decide (s = a))) : ∀ x, s_cn g x = s_cn f x + if a < x then 1 else 0 := by
  intro x
  induction x with
  | zero => rfl
  | succ x ih =>
    by_cases e : x = a
    · subst e
      rw [s_cn_s1 (show g x = true by rw [h, decide_eq_true rfl, Bool.or_true]), s_cn_s0 (show ¬ f x = true by rw [ha]; decide), ih, if_neg (by omega), if_pos (by omega)]
    · have hg : g x = f x := by rw [h, decide_eq_false e, Bool.or_false]
      by_cases z : f x = true
      · rw [s_cn_s1 (hg.trans z), s_cn_s1 z, ih]
        by_cases l : a < x
        · rw [if_pos l, if_pos (by omega)]
        · rw [if_neg l, if_neg (by omega)]
      · rw [s_cn_s0 (by rw [hg]; exact z), s_cn_s0 z, ih]
        by_cases l : a < x
        · rw [if_pos l, if_pos (by omega)]
        · rw [if_neg l, if_neg (by omega)]
theorem s_cn_up {f : Nat → Bool} : ∀ {x y : Nat}, x ≤ y → s_cn f x ≤ s_cn f y := by
  intro x y
  induction y with
  | zero => intro h; rw [show x = 0 by omega]; exact Nat.le_refl _
  | succ y ih =>
    intro h
    by_cases e : x = y + 1
    · rw [e]; exact Nat.le_refl _
    · have := ih (by omega)
      by_cases z : f y = true
      · rw [s_cn_s1 z]; omega
      · rw [s_cn_s0 z]; exact this
/-- how many behind place p are below it -/
def lc (r : Nat → Nat) (p k : Nat) : Nat := s_cn (fun q => decide (p < q ∧ r q < r p)) k
theorem lc_cn {r : Nat → Nat} {p : Nat} : ∀ K x, (∀ a b, a < K → b < K → r a = r b → a = b) → s_cn (fun q => decide (p < q ∧ r q < x)) K = s_cn (fun s => decide (∃ q, q < K ∧ p < q ∧ r q = s)) x := by
  intro K
  induction K with
  | zero =>
    intro x _
    rw [s_cn_0 x fun q _ => decide_eq_false fun ⟨a, b, _⟩ => absurd b (Nat.not_lt_zero _)]
    rfl
  | succ K ih =>
    intro x h
    have e := ih x fun a b ha hb => h a b (by omega) (by omega)
    by_cases hp : p < K
    · rw [s_cn_add (a := r K) (f := fun s => decide (∃ q, q < K ∧ p < q ∧ r q = s)) (decide_eq_false fun ⟨q, q1, _, q3⟩ => by have := h q K (by omega) (by omega) q3; omega) (fun s => ?_) x]
      · by_cases l : r K < x
        · rw [s_cn_s1 (decide_eq_true ⟨hp, l⟩), if_pos l, e]
        · rw [s_cn_s0 (by rw [decide_eq_false (fun z => l z.2)]; decide), if_neg l, e]; rfl
      · rw [← Bool.decide_or]
        refine decide_eq_decide.mpr ⟨fun ⟨q, q1, q2, q3⟩ => ?_, fun z => ?_⟩
        · by_cases w : q = K
          · exact Or.inr (by rw [← q3, w])
          · exact Or.inl ⟨q, by omega, q2, q3⟩
        · rcases z with ⟨q, q1, q2, q3⟩ | z
          · exact ⟨q, by omega, q2, q3⟩
          · exact ⟨K, by omega, hp, z.symm⟩
    · rw [s_cn_s0 (by rw [decide_eq_false (fun z => hp z.1)]; decide), e]
      refine s_cn_congr x fun s _ => decide_eq_decide.mpr ⟨fun ⟨q, q1, q2, q3⟩ => ⟨q, by omega, q2, q3⟩, fun ⟨q, q1, q2, q3⟩ => ⟨q, by omega, q2, q3⟩⟩
theorem lc_eq {r : Nat → Nat} {p k : Nat} {f : Nat → Bool} (hj : ∀ a b, a < k → b < k → r a = r b → a = b) (hp : p < k) (hf : ∀ s, s < r p → (f s = true ↔ ∃ q, p ≤ q ∧ q < k ∧ r q = s)) : s_cn f (r p) = lc r p k := by
  unfold lc
  rw [lc_cn k (r p) hj]
  refine s_cn_congr _ fun s hs => ?_
  have : (f s = true) ↔ (∃ q, q < k ∧ p < q ∧ r q = s) := by
    rw [hf s hs]
    refine ⟨fun ⟨q, q1, q2, q3⟩ => ⟨q, q2, ?_, q3⟩, fun ⟨q, q1, q2, q3⟩ => ⟨q, by omega, q1, q3⟩⟩
    by_cases e : q = p
    · rw [e] at q3; omega
    · omega
  cases z : f s with
  | true => exact (decide_eq_true (this.mp z)).symm
  | false => exact (decide_eq_false (fun q => by rw [this.mpr q] at z; cases z)).symm
theorem lc_le (r : Nat → Nat) (p : Nat) : ∀ k, lc r p k ≤ k - (p + 1) := by
  intro k
  unfold lc
  induction k with
  | zero => exact Nat.zero_le _
  | succ k ih =>
    by_cases z : p < k ∧ r k < r p
    · rw [s_cn_s1 (decide_eq_true z)]; omega
    · rw [s_cn_s0 (by rw [decide_eq_false z]; decide)]; omega
def fc : Nat → Nat
  | 0 => 1
  | n + 1 => (n + 1) * fc n
theorem fc_s {k p : Nat} (h : p < k) : fc (k - p) = (k - p) * fc (k - p - 1) := by
  obtain ⟨d, rfl⟩ : ∃ d, k = p + d + 1 := ⟨k - p - 1, by omega⟩
  rw [show p + d + 1 - p = d + 1 by omega]
  rfl
theorem fc_pos : ∀ n, 1 ≤ fc n := by
  intro n
  induction n with
  | zero => exact Nat.le_refl _
  | succ n ih => exact Nat.mul_pos (Nat.succ_pos n) ih
theorem fc_720 {n : Nat} (h : n ≤ 6) : fc n ≤ 720 := by
  rcases (by omega : n = 0 ∨ n = 1 ∨ n = 2 ∨ n = 3 ∨ n = 4 ∨ n = 5 ∨ n = 6) with rfl | rfl | rfl | rfl | rfl | rfl | rfl <;> decide
def hkr (r : Nat → Nat) (k : Nat) : Nat → Nat
  | 0 => 0
  | p + 1 => hkr r k p * (k - p) + lc r p k
def rs (r : Nat → Nat) (k : Nat) : Nat → Nat
  | 0 => 0
  | p + 1 => rs r k p + lc r p k * fc (k - p - 1)
theorem rs_hk (r : Nat → Nat) (k : Nat) : ∀ p, p ≤ k → rs r k p = hkr r k p * fc (k - p) := by
  intro p
  induction p with
  | zero => intro _; exact (Nat.zero_mul _).symm
  | succ p ih =>
    intro h
    show rs r k p + lc r p k * fc (k - p - 1) = (hkr r k p * (k - p) + lc r p k) * fc (k - (p + 1))
    rw [ih (by omega), fc_s (show p < k by omega), show k - (p + 1) = k - p - 1 by omega, Nat.add_mul, Nat.mul_assoc]
theorem rs_b (r : Nat → Nat) (k : Nat) : ∀ p, p ≤ k → rs r k p + fc (k - p) ≤ fc k := by
  intro p
  induction p with
  | zero => intro _; show 0 + fc (k - 0) ≤ fc k; rw [Nat.sub_zero]; omega
  | succ p ih =>
    intro h
    have a := ih (by omega)
    rw [fc_s (show p < k by omega)] at a
    have b : (lc r p k + 1) * fc (k - p - 1) ≤ (k - p) * fc (k - p - 1) := Nat.mul_le_mul_right _ (by have := lc_le r p k; omega)
    rw [Nat.add_mul, Nat.one_mul] at b
    show rs r k p + lc r p k * fc (k - p - 1) + fc (k - (p + 1)) ≤ fc k
    rw [show k - (p + 1) = k - p - 1 by omega]
    omega
def rk (r : Nat → Nat) (k : Nat) : Nat := rs r k k
theorem rk_hk (r : Nat → Nat) (k : Nat) : rk r k = hkr r k k := by
  unfold rk
  rw [rs_hk r k k (Nat.le_refl _), Nat.sub_self]
  exact Nat.mul_one _
theorem rk_lt {r : Nat → Nat} {k : Nat} (h : k ≤ 6) : rk r k < 720 := by
  have := rs_b r k k (Nat.le_refl _)
  have := fc_720 h
  rw [Nat.sub_self] at *
  unfold rk
  show rs r k k < 720
  have : fc 0 = 1 := rfl
  omega
/-- what is left of the rank from place p on -/
def rt2 (r : Nat → Nat) (k : Nat) : Nat → Nat → Nat
  | _, 0 => 0
  | p, f + 1 => lc r p k * fc (k - p - 1) + rt2 r k (p + 1) f
theorem rt2_b (r : Nat → Nat) (k : Nat) : ∀ f p, p + f = k → rt2 r k p f < fc (k - p) := by
  intro f
  induction f with
  | zero => intro p h; exact fc_pos _
  | succ f ih =>
    intro p h
    have a := ih (p + 1) (by omega)
    rw [show k - (p + 1) = k - p - 1 by omega] at a
    have b : (lc r p k + 1) * fc (k - p - 1) ≤ (k - p) * fc (k - p - 1) := Nat.mul_le_mul_right _ (by have := lc_le r p k; omega)
    rw [Nat.add_mul, Nat.one_mul] at b
    rw [fc_s (show p < k by omega)]
    show lc r p k * fc (k - p - 1) + rt2 r k (p + 1) f < _
    omega
theorem rs_rt2 (r : Nat → Nat) (k : Nat) : ∀ f p, p + f = k → rs r k p + rt2 r k p f = rs r k k := by
  intro f
  induction f with
  | zero => intro p h; rw [show p = k by omega]; rfl
  | succ f ih =>
    intro p h
    rw [← ih (p + 1) (by omega)]
    show rs r k p + (lc r p k * fc (k - p - 1) + rt2 r k (p + 1) f) = rs r k p + lc r p k * fc (k - p - 1) + _
    omega
theorem rt2_0 (r : Nat → Nat) (k : Nat) : rt2 r k 0 k = rk r k := by
  have := rs_rt2 r k k 0 (by omega)
  unfold rk
  rw [← this]
  show _ = 0 + _
  omega
theorem rt2_dv {r : Nat → Nat} {k p f : Nat} (h : p + (f + 1) = k) : rt2 r k p (f + 1) / fc (k - p - 1) = lc r p k ∧ rt2 r k p (f + 1) % fc (k - p - 1) = rt2 r k (p + 1) f := by
  have a := rt2_b r k f (p + 1) (by omega)
  rw [show k - (p + 1) = k - p - 1 by omega] at a
  have e : rt2 r k p (f + 1) = rt2 r k (p + 1) f + lc r p k * fc (k - p - 1) := Nat.add_comm _ _
  rw [e]
  refine ⟨?_, ?_⟩
  · rw [Nat.add_mul_div_right _ _ (fc_pos _), Nat.div_eq_of_lt a, Nat.zero_add]
  · rw [Nat.add_mul_mod_self_right, Nat.mod_eq_of_lt a]
/-- an order of the row -/
def PR (k : Nat) (ρ r : Nat → Nat) : Prop := (∀ s, (∃ q, q < k ∧ r q = s) ↔ ∃ q, q < k ∧ ρ q = s) ∧ ∀ p q, p < k → q < k → r p = r q → p = q
theorem rk_inj {k : Nat} {ρ r r' : Nat → Nat} (h : PR k ρ r) (h' : PR k ρ r') (e : rk r k = rk r' k) : ∀ q, q < k → r q = r' q := by
  have key : ∀ f p, p + f = k → rt2 r k p f = rt2 r' k p f → (∀ q, q < p → r q = r' q) → ∀ q, q < k → r q = r' q := by
    intro f
    induction f with
    | zero => intro p hp _ h q hq; exact h q (by omega)
    | succ f ih =>
      intro p hp he hq
      have a := rt2_dv (r := r) hp
      have b := rt2_dv (r := r') hp
      rw [he] at a
      have hl : lc r p k = lc r' p k := a.1.symm.trans b.1
      have hF : ∀ x : Nat → Nat, PR k ρ x → (∀ q, q < p → x q = r q) → ∀ s, ((∃ q, p ≤ q ∧ q < k ∧ x q = s) ↔ ((∃ q, q < k ∧ ρ q = s) ∧ ∀ q, q < p → r q ≠ s)) := fun x hx hxr s => by
        constructor
        · rintro ⟨q, q1, q2, q3⟩
          refine ⟨(hx.1 s).mp ⟨q, q2, q3⟩, fun j hj z => ?_⟩
          have := hx.2 j q (by omega) q2 (by rw [hxr j hj, z, q3])
          omega
        · rintro ⟨z1, z2⟩
          obtain ⟨q, q1, q2⟩ := (hx.1 s).mpr z1
          refine ⟨q, ?_, q1, q2⟩
          by_cases w : p ≤ q
          · exact w
          · exact absurd (by rw [← hxr q (by omega)]; exact q2) (z2 q (by omega))
      have c1 := lc_eq (f := fun s => decide ((∃ q, q < k ∧ ρ q = s) ∧ ∀ q, q < p → r q ≠ s)) h.2 (show p < k by omega) (fun s _ => by rw [decide_eq_true_iff]; exact (hF r h (fun _ _ => rfl) s).symm)
      have c2 := lc_eq (f := fun s => decide ((∃ q, q < k ∧ ρ q = s) ∧ ∀ q, q < p → r q ≠ s)) h'.2 (show p < k by omega) (fun s _ => by rw [decide_eq_true_iff]; exact (hF r' h' (fun q z => (hq q z).symm) s).symm)
      rw [← hl, ← c1] at c2
      have m1 := (hF r h (fun _ _ => rfl) (r p)).mp ⟨p, Nat.le_refl _, by omega, rfl⟩
      have m2 := (hF r' h' (fun q z => (hq q z).symm) (r' p)).mp ⟨p, Nat.le_refl _, by omega, rfl⟩
      have hp' : r p = r' p := by
        rcases Nat.lt_trichotomy (r p) (r' p) with u | u | u
        · have := s_cn_up (f := fun s => decide ((∃ q, q < k ∧ ρ q = s) ∧ ∀ q, q < p → r q ≠ s)) (show r p + 1 ≤ r' p by omega)
          rw [s_cn_s1 (decide_eq_true m1)] at this
          omega
        · exact u
        · have := s_cn_up (f := fun s => decide ((∃ q, q < k ∧ ρ q = s) ∧ ∀ q, q < p → r q ≠ s)) (show r' p + 1 ≤ r p by omega)
          rw [s_cn_s1 (decide_eq_true m2)] at this
          omega
      refine ih (p + 1) (by omega) (by rw [← a.2, b.2]) fun q hq' => ?_
      by_cases w : q = p
      · rw [w]; exact hp'
      · exact hq q (by omega)
  exact key k 0 (by omega) (by rw [rt2_0, rt2_0, e]) fun q hq => absurd hq (Nat.not_lt_zero _)
theorem PR_rv {k i j : Nat} {ρ r : Nat → Nat} (hij : i < j) (hj : j < k) (h : PR k ρ r) : PR k ρ (r_rv i j r) := by
  refine ⟨fun s => ?_, rv_inj hj h.2⟩
  rw [← h.1 s]
  constructor
  · rintro ⟨q, q1, q2⟩
    unfold r_rv at q2
    by_cases e : i ≤ q ∧ q ≤ j
    · rw [if_pos e] at q2; exact ⟨_, by omega, q2⟩
    · rw [if_neg e] at q2; exact ⟨_, q1, q2⟩
  · rintro ⟨q, q1, q2⟩
    by_cases e : i ≤ q ∧ q ≤ j
    · refine ⟨i + j - q, by omega, ?_⟩
      unfold r_rv
      rw [if_pos (by omega), show i + j - (i + j - q) = q by omega]
      exact q2
    · refine ⟨q, q1, ?_⟩
      unfold r_rv
      rw [if_neg e]
      exact q2
theorem rk_congr {k : Nat} {r r' : Nat → Nat} (h : ∀ q, q < k → r q = r' q) : rk r k = rk r' k := by
  have hl : ∀ p, p < k → lc r p k = lc r' p k := fun p hp => s_cn_congr k fun q hq => by rw [h q hq, h p hp]
  have : ∀ p, p ≤ k → rs r k p = rs r' k p := by
    intro p
    induction p with
    | zero => intro _; rfl
    | succ p ih => intro hp; show rs r k p + _ = rs r' k p + _; rw [ih (by omega), hl p (by omega)]
  exact this k (Nat.le_refl _)
