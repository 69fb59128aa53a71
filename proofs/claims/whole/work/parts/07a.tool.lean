/-! PURE: tools -/
def oj_wp {α : Type} (x : Option α) (Q : α → Prop) : Prop := ∃ a, x = some a ∧ Q a
theorem wp_some {α : Type} {a : α} {Q : α → Prop} (h : Q a) : oj_wp (some a) Q := ⟨a, rfl, h⟩
theorem wp_eq {α : Type} {x : Option α} {a : α} {Q : α → Prop} (e : x = some a) (h : Q a) : oj_wp x Q := ⟨a, e, h⟩
theorem wp_bind {α β : Type} {x : Option α} {f : α → Option β} {Q : β → Prop} (h : oj_wp x fun a => oj_wp (f a) Q) : oj_wp (x.bind f) Q := by
  obtain ⟨a, rfl, b, hb, hQ⟩ := h
  exact ⟨b, hb, hQ⟩
theorem wp_then {α β : Type} {x : Option α} {f : α → Option β} {P : α → Prop} {Q : β → Prop} (h : oj_wp x P) (k : ∀ a, P a → oj_wp (f a) Q) : oj_wp (x.bind f) Q := by
  obtain ⟨a, rfl, ha⟩ := h
  exact k a ha
theorem wp_mono {α : Type} {x : Option α} {P Q : α → Prop} (h : oj_wp x P) (k : ∀ a, P a → Q a) : oj_wp x Q := by
  obtain ⟨a, e, ha⟩ := h
  exact ⟨a, e, k a ha⟩
theorem wp_map {α β : Type} {x : Option α} {f : α → β} {Q : β → Prop} (h : oj_wp x fun a => Q (f a)) : oj_wp (x.map f) Q := by
  obtain ⟨a, rfl, ha⟩ := h
  exact ⟨f a, rfl, ha⟩
theorem wp_if {α : Type} {c : Prop} [Decidable c] {x y : Option α} {Q : α → Prop} (a : c → oj_wp x Q) (b : ¬ c → oj_wp y Q) : oj_wp (if c then x else y) Q := by
  by_cases h : c
  · rw [if_pos h]; exact a h
  · rw [if_neg h]; exact b h
def oj_k {S E : Type} (P : S → Prop) (Q : E → Prop) (x : S ⊕ E) : Prop := match x with
  | .inl s => P s
  | .inr e => Q e
theorem wp_inl {S E : Type} {P : S → Prop} {Q : E → Prop} {s : S} (h : P s) : oj_wp (some (Sum.inl s : S ⊕ E)) (oj_k P Q) := ⟨_, rfl, h⟩
theorem wp_inr {S E : Type} {P : S → Prop} {Q : E → Prop} {e : E} (h : Q e) : oj_wp (some (Sum.inr e : S ⊕ E)) (oj_k P Q) := ⟨_, rfl, h⟩
/-- a loop by a measure -/
theorem wp_loopm {S E : Type} {body : S → Option (S ⊕ E)} (I : Nat → S → Prop) {Q : E → Prop} (hs : ∀ i s, I i s → oj_wp (body s) (oj_k (fun s' => ∃ i', i' < i ∧ I i' s') Q)) : ∀ (k i : Nat) (s : S), i < k → I i s → oj_wp (oj_loop body k s) Q := by
  intro k
  induction k with
  | zero => intro i s h; omega
  | succ k ih =>
    intro i s hi h
    unfold oj_loop
    obtain ⟨x, hx, hq⟩ := hs i s h
    rw [hx]
    cases x with
    | inl s' =>
      obtain ⟨i', h1, h2⟩ := hq
      exact ih i' s' (by omega) h2
    | inr e => exact ⟨e, rfl, hq⟩
/-- a loop that counts up -/
theorem wp_loop {S E : Type} {body : S → Option (S ⊕ E)} (I : Nat → S → Prop) (n : Nat) {Q : E → Prop} (hn : n < oj_FU) (hs : ∀ i s, i < n → I i s → oj_wp (body s) (oj_k (I (i + 1)) Q)) (he : ∀ s, I n s → oj_wp (body s) (oj_k (fun _ => False) Q)) {s0 : S} {i0 : Nat} (hi0 : i0 ≤ n) (h0 : I i0 s0) : oj_wp (oj_loop body oj_FU s0) Q := by
  refine wp_loopm (I := fun j s => j ≤ n ∧ I (n - j) s) (fun j s hj => ?_) oj_FU (n - i0) s0 (by omega) ⟨by omega, by rw [show n - (n - i0) = i0 by omega]; exact h0⟩
  obtain ⟨hj1, hj2⟩ := hj
  by_cases h : n - j < n
  · refine wp_mono (hs (n - j) s h hj2) fun x hx => ?_
    cases x with
    | inl s' => exact ⟨j - 1, by omega, by omega, by rw [show n - (j - 1) = n - j + 1 by omega]; exact hx⟩
    | inr e => exact hx
  · refine wp_mono (he s (by rw [show n - j = n by omega] at hj2; exact hj2)) fun x hx => ?_
    cases x with
    | inl s' => exact False.elim hx
    | inr e => exact hx
-- small ints
theorem nI_inj {a b : Nat} (ha : a < 2 ^ 31) (hb : b < 2 ^ 31) (h : nI a = nI b) : a = b := (nI_eq ha hb).mp h
theorem nI_sub {a b : Nat} (h : b ≤ a) : nI a - nI b = nI (a - b) := by
  have e : nI a = nI (a - b) + nI b := by rw [nI_add, Nat.sub_add_cancel h]
  rw [e, Int32.add_sub_cancel]
theorem nI_m1 {a : Nat} (h : 1 ≤ a) : nI a - 1 = nI (a - 1) := nI_sub h
theorem nI_am1 {a : Nat} (h : 1 ≤ a) : nI a + (-1) = nI (a - 1) := by
  rw [← nI_m1 h, Int32.sub_eq_add_neg]
theorem nI_mul (a b : Nat) : nI a * nI b = nI (a * b) := (Int32.ofNat_mul a b).symm
theorem nI_not_neg {a : Nat} (h : a < 2 ^ 31) : ¬ nI a < 0 := nI_pos h
theorem nI_eq0 {a : Nat} (h : a < 2 ^ 31) : nI a = 0 ↔ a = 0 := nI_eq h (by decide)
-- one place of the memory replaced
def oj_row (m : ej_M) (a : Nat) (f : Nat → Int32) : ej_M := (fun b => if b = a then f else m.1 b, m.2)
theorem oj_row_s {m : ej_M} {a : Nat} {f : Nat → Int32} : (oj_row m a f).1 a = f := if_pos rfl
theorem oj_row_n {m : ej_M} {a b : Nat} {f : Nat → Int32} (h : b ≠ a) : (oj_row m a f).1 b = m.1 b := if_neg h
theorem oj_row_2 {m : ej_M} {a : Nat} {f : Nat → Int32} : (oj_row m a f).2 = m.2 := rfl
theorem ej_w_row (m : ej_M) (a i : Nat) (v : Int32) : ej_w m a i v = oj_row m a (upd (m.1 a) i v) := by
  unfold ej_w oj_row
  congr 1
  funext b
  by_cases h : b = a
  · subst h; simp only [if_true]
  · rw [if_neg h, if_neg h]
theorem oj_row_row {m : ej_M} {a : Nat} {f g : Nat → Int32} : oj_row (oj_row m a f) a g = oj_row m a g := by
  unfold oj_row
  congr 1
  funext b
  by_cases h : b = a
  · simp only [if_pos h]
  · simp only [if_neg h]
theorem oj_row_id {m : ej_M} {a : Nat} : oj_row m a (m.1 a) = m := by
  unfold oj_row
  have : (fun b => if b = a then m.1 a else m.1 b) = m.1 := by
    funext b
    by_cases h : b = a
    · subst h; rw [if_pos rfl]
    · rw [if_neg h]
  rw [this]
/-- an int array of n elements at a place of the steady shape -/
def oj_ar (a n : Nat) : Prop := (∃ rs, ej_sh[a]? = some (50, n, rs)) ∧ n < 2 ^ 31
theorem oj_ar_ln {a n : Nat} (h : oj_ar a n) (m : ej_M) : oj_ln m a = some (nI n) := by
  obtain ⟨⟨rs, h1⟩, h2⟩ := h
  unfold oj_ln ej_al
  simp only [h1]
  rfl
theorem oj_ar_ld {a n k : Nat} (h : oj_ar a n) (hk : k < n) (m : ej_M) : oj_ld 0 m a (nI k) = some (m.1 a k) := by
  obtain ⟨⟨rs, h1⟩, h2⟩ := h
  unfold oj_ld ej_al
  simp only [h1]
  have hk' : k < 2 ^ 31 := by omega
  rw [nI_clamp hk']
  simp only [show (50 : Nat) ≤ 50 by decide, if_true]
  rw [if_pos ⟨trivial, fun q => q.elim (fun z => nI_pos hk' z) (fun z => by omega)⟩]
theorem oj_ar_st {a n k : Nat} (h : oj_ar a n) (hk : k < n) (m : ej_M) (v : Int32) : oj_st 0 m a (nI k) v = some (oj_row m a (upd (m.1 a) k v)) := by
  obtain ⟨⟨rs, h1⟩, h2⟩ := h
  unfold oj_st
  simp only [h1]
  have hk' : k < 2 ^ 31 := by omega
  rw [nI_clamp hk', if_pos ⟨trivial, fun q => q.elim (fun z => nI_pos hk' z) (fun z => by omega)⟩, ej_w_row]
theorem p_at {a n k : Nat} (h : oj_ar a n) (hk : k < 2 ^ 31) (m : ej_M) : f_X10_at a (nI k) m = some (if k < n then m.1 a k else 0, m) := by
  unfold f_X10_at
  rw [if_neg (nI_pos hk), oj_ar_ln h]
  simp only [Option.bind_some]
  by_cases hkn : k < n
  · rw [if_neg (fun q => by have := (nI_leI h.2 hk).mp q; omega), if_pos hkn, oj_ar_ld h hkn]
    rfl
  · rw [if_pos ((nI_leI h.2 hk).mpr (by omega)), if_neg hkn]
theorem p_at1 {a n k : Nat} (h : oj_ar a n) (hk : k < n) (m : ej_M) : f_X10_at a (nI k) m = some (m.1 a k, m) := by
  rw [p_at h (by have := h.2; omega), if_pos hk]
theorem p_atN {a : Nat} {i : Int32} (hi : i < 0) (m : ej_M) : f_X10_at a i m = some (0, m) := by
  unfold f_X10_at
  rw [if_pos hi]
theorem p_lay {a n k : Nat} (h : oj_ar a n) (hk : k < 2 ^ 31) (v : Int32) (m : ej_M) : f_X10_lay a (nI k) v m = some ((), if k < n then oj_row m a (upd (m.1 a) k v) else m) := by
  unfold f_X10_lay
  rw [if_neg (nI_pos hk), oj_ar_ln h]
  simp only [Option.bind_some]
  by_cases hkn : k < n
  · rw [if_neg (fun q => by have := (nI_leI h.2 hk).mp q; omega), if_pos hkn, oj_ar_st h hkn]
    rfl
  · rw [if_pos ((nI_leI h.2 hk).mpr (by omega)), if_neg hkn]
theorem p_lay1 {a n k : Nat} (h : oj_ar a n) (hk : k < n) (v : Int32) (m : ej_M) : f_X10_lay a (nI k) v m = some ((), oj_row m a (upd (m.1 a) k v)) := by
  rw [p_lay h (by have := h.2; omega), if_pos hk]
theorem p_layN {a : Nat} {i : Int32} (hi : i < 0) (v : Int32) (m : ej_M) : f_X10_lay a i v m = some ((), m) := by
  unfold f_X10_lay
  rw [if_pos hi]
theorem p_in (v lo hi : Int32) (m : ej_M) : f_X11_in v lo hi m = some (if lo ≤ v ∧ v ≤ hi then 1 else 0, m) := by
  unfold f_X11_in
  by_cases h1 : v < lo
  · have : ¬ lo ≤ v := Int32.not_le.mpr h1
    simp [h1, this]
  · have h1' : lo ≤ v := Int32.not_lt.mp h1
    by_cases h2 : hi < v
    · have : ¬ v ≤ hi := Int32.not_le.mpr h2
      simp [h1, h2, this]
    · have h2' : v ≤ hi := Int32.not_lt.mp h2
      simp [h1, h2, h1', h2']
