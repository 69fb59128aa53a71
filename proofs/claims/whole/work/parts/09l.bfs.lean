/-! fewest: the search, pure -/
def vis (k : Nat) (Q : List ((Nat → Nat) × Nat)) (x : Nat) : Bool := Q.any fun e => decide (rk e.1 k = x)
theorem vis_iff {k : Nat} {Q : List ((Nat → Nat) × Nat)} {x : Nat} : vis k Q x = true ↔ ∃ e, e ∈ Q ∧ rk e.1 k = x := by
  unfold vis
  rw [List.any_eq_true]
  exact ⟨fun ⟨e, a, b⟩ => ⟨e, a, of_decide_eq_true b⟩, fun ⟨e, a, b⟩ => ⟨e, a, decide_eq_true b⟩⟩
def ad (LW : (Nat → Nat) → Bool) (k : Nat) (Q : List ((Nat → Nat) × Nat)) (r : Nat → Nat) (d : Nat) : List ((Nat → Nat) × Nat) := if vis k Q (rk r k) = true then Q else if LW r = true then Q ++ [(r, d)] else Q
theorem vis_app {k : Nat} {Q : List ((Nat → Nat) × Nat)} {r : Nat → Nat} {d x : Nat} : vis k (Q ++ [(r, d)]) x = (vis k Q x || decide (x = rk r k)) := by
  unfold vis
  rw [List.any_append]
  congr 1
  show (decide (rk r k = x) || false) = _
  rw [Bool.or_false]
  exact decide_eq_decide.mpr ⟨Eq.symm, Eq.symm⟩
/-- what holds of the queue -/
def QW (k : Nat) (ρ : Nat → Nat) (Q : List ((Nat → Nat) × Nat)) : Prop := (∀ (i : Nat) (e : (Nat → Nat) × Nat), Q[i]? = some e → PR k ρ e.1 ∧ (∀ q, q < k → e.1 q < 8) ∧ e.2 ≤ i) ∧ Q.length = s_cn (vis k Q) 720 ∧ ∀ (e e' : (Nat → Nat) × Nat), e ∈ Q → e' ∈ Q → rk e.1 k = rk e'.1 k → e = e'
theorem QW_len {k : Nat} {ρ : Nat → Nat} {Q : List ((Nat → Nat) × Nat)} (h : QW k ρ Q) : Q.length ≤ 720 := by rw [h.2.1]; exact s_cn_le _ _
theorem QW_app {k : Nat} {ρ r : Nat → Nat} {Q : List ((Nat → Nat) × Nat)} {d : Nat} (hk : k ≤ 6) (h : QW k ρ Q) (hv : ¬ vis k Q (rk r k) = true) (hP : PR k ρ r) (h8 : ∀ q, q < k → r q < 8) (hd : d ≤ Q.length) : QW k ρ (Q ++ [(r, d)]) := by
  refine ⟨fun i e he => ?_, ?_, fun e e' he he' z => ?_⟩
  · by_cases l : i < Q.length
    · rw [List.getElem?_append_left l] at he; exact h.1 i e he
    · rw [List.getElem?_append_right (by omega)] at he
      have hi : i - Q.length = 0 := by
        by_cases z : i - Q.length = 0
        · exact z
        · rw [List.getElem?_eq_none (by show 1 ≤ _; omega)] at he; cases he
      rw [hi] at he
      have : e = (r, d) := (Option.some.inj he).symm
      rw [this]
      exact ⟨hP, h8, by show d ≤ i; omega⟩
  · rw [List.length_append, s_cn_add (a := rk r k) (f := vis k Q) (by cases z : vis k Q (rk r k) with | true => exact absurd z hv | false => rfl) (fun s => vis_app) 720, if_pos (rk_lt hk), h.2.1]
    rfl
  · have hno : ∀ x, x ∈ Q → rk x.1 k ≠ rk r k := fun x hx w => hv (vis_iff.mpr ⟨x, hx, w⟩)
    rcases List.mem_append.mp he with a | a
    · rcases List.mem_append.mp he' with b | b
      · exact h.2.2 e e' a b z
      · rw [List.mem_singleton.mp b] at z; exact absurd z (hno e a)
    · rcases List.mem_append.mp he' with b | b
      · rw [List.mem_singleton.mp a] at z; exact absurd z.symm (hno e' b)
      · rw [List.mem_singleton.mp a, List.mem_singleton.mp b]
theorem QW_ad {k : Nat} {ρ r : Nat → Nat} {Q : List ((Nat → Nat) × Nat)} {d : Nat} {LW : (Nat → Nat) → Bool} (hk : k ≤ 6) (h : QW k ρ Q) (hP : PR k ρ r) (h8 : ∀ q, q < k → r q < 8) (hd : d ≤ Q.length) : QW k ρ (ad LW k Q r d) := by
  unfold ad
  by_cases hv : vis k Q (rk r k) = true
  · rw [if_pos hv]; exact h
  · rw [if_neg hv]
    by_cases hl : LW r = true
    · rw [if_pos hl]; exact QW_app hk h hv hP h8 hd
    · rw [if_neg hl]; exact h
theorem ad_pre {k : Nat} {r : Nat → Nat} {Q : List ((Nat → Nat) × Nat)} {d : Nat} {LW : (Nat → Nat) → Bool} : Q <+: ad LW k Q r d := by
  unfold ad
  split
  · exact List.prefix_refl _
  · split
    · exact List.prefix_append _ _
    · exact List.prefix_refl _
/-- turns from place i to the places below j -/
def tj (LW : (Nat → Nat) → Bool) (k : Nat) (Q : List ((Nat → Nat) × Nat)) (e : (Nat → Nat) × Nat) (i : Nat) : Nat → List ((Nat → Nat) × Nat)
  | 0 => Q
  | j + 1 => if i < j then ad LW k (tj LW k Q e i j) (r_rv i j e.1) (e.2 + 1) else tj LW k Q e i j
theorem tj_s1 {LW : (Nat → Nat) → Bool} {k : Nat} {Q : List ((Nat → Nat) × Nat)} {e : (Nat → Nat) × Nat} {i j : Nat} (h : i < j) : tj LW k Q e i (j + 1) = ad LW k (tj LW k Q e i j) (r_rv i j e.1) (e.2 + 1) := if_pos h
theorem tj_lo {LW : (Nat → Nat) → Bool} {k : Nat} {Q : List ((Nat → Nat) × Nat)} {e : (Nat → Nat) × Nat} {i : Nat} : ∀ j, j ≤ i + 1 → tj LW k Q e i j = Q := by
  intro j
  induction j with
  | zero => intro _; rfl
  | succ j ih => intro h; show (if i < j then _ else _) = Q; rw [if_neg (by omega)]; exact ih (by omega)
def ti (LW : (Nat → Nat) → Bool) (k : Nat) (Q : List ((Nat → Nat) × Nat)) (e : (Nat → Nat) × Nat) : Nat → List ((Nat → Nat) × Nat)
  | 0 => Q
  | i + 1 => tj LW k (ti LW k Q e i) e i k
theorem tj_QW {k : Nat} {ρ : Nat → Nat} {Q : List ((Nat → Nat) × Nat)} {e : (Nat → Nat) × Nat} {i : Nat} {LW : (Nat → Nat) → Bool} (hk : k ≤ 6) (h : QW k ρ Q) (hP : PR k ρ e.1) (h8 : ∀ q, q < k → e.1 q < 8) (hd : e.2 + 1 ≤ Q.length) : ∀ j, j ≤ k → QW k ρ (tj LW k Q e i j) ∧ Q <+: tj LW k Q e i j := by
  intro j
  induction j with
  | zero => intro _; exact ⟨h, List.prefix_refl _⟩
  | succ j ih =>
    intro hj
    obtain ⟨a, b⟩ := ih (by omega)
    by_cases l : i < j
    · rw [tj_s1 l]
      refine ⟨QW_ad hk a (PR_rv l (by omega) hP) (fun q hq => ?_) (Nat.le_trans hd b.length_le), List.IsPrefix.trans b ad_pre⟩
      unfold r_rv
      split
      · exact h8 _ (by omega)
      · exact h8 _ hq
    · rw [show tj LW k Q e i (j + 1) = tj LW k Q e i j from if_neg l]; exact ⟨a, b⟩
theorem ti_QW {k : Nat} {ρ : Nat → Nat} {Q : List ((Nat → Nat) × Nat)} {e : (Nat → Nat) × Nat} {LW : (Nat → Nat) → Bool} (hk : k ≤ 6) (h : QW k ρ Q) (hP : PR k ρ e.1) (h8 : ∀ q, q < k → e.1 q < 8) (hd : e.2 + 1 ≤ Q.length) : ∀ i, QW k ρ (ti LW k Q e i) ∧ Q <+: ti LW k Q e i := by
  intro i
  induction i with
  | zero => exact ⟨h, List.prefix_refl _⟩
  | succ i ih =>
    obtain ⟨a, b⟩ := ih
    have := tj_QW (LW := LW) (i := i) hk a hP h8 (Nat.le_trans hd b.length_le) k (Nat.le_refl _)
    exact ⟨this.1, List.IsPrefix.trans b this.2⟩
/-- the queue, when h of it were gone through -/
def qs (LW : (Nat → Nat) → Bool) (k : Nat) (ρ : Nat → Nat) : Nat → List ((Nat → Nat) × Nat)
  | 0 => [(ρ, 0)]
  | h + 1 => match (qs LW k ρ h)[h]? with
    | some e => ti LW k (qs LW k ρ h) e k
    | none => qs LW k ρ h
theorem qs_s {LW : (Nat → Nat) → Bool} {k : Nat} {ρ : Nat → Nat} {h : Nat} {e : (Nat → Nat) × Nat} (he : (qs LW k ρ h)[h]? = some e) : qs LW k ρ (h + 1) = ti LW k (qs LW k ρ h) e k := by
  show (match (qs LW k ρ h)[h]? with | some e => ti LW k (qs LW k ρ h) e k | none => qs LW k ρ h) = _
  rw [he]
theorem qs_n {LW : (Nat → Nat) → Bool} {k : Nat} {ρ : Nat → Nat} {h : Nat} (he : (qs LW k ρ h)[h]? = none) : qs LW k ρ (h + 1) = qs LW k ρ h := by
  show (match (qs LW k ρ h)[h]? with | some e => ti LW k (qs LW k ρ h) e k | none => qs LW k ρ h) = _
  rw [he]
theorem s_cn_1 {f : Nat → Bool} {a : Nat} (ha : f a = true) (h : ∀ s, s ≠ a → f s = false) : ∀ x, s_cn f x = if a < x then 1 else 0 := by
  intro x
  have := s_cn_add (f := fun _ => false) (g := f) (a := a) rfl (fun s => by
    by_cases e : s = a
    · rw [e, ha, decide_eq_true rfl]; rfl
    · rw [h s e, decide_eq_false e]; rfl) x
  rw [this, s_cn_0 x fun q _ => rfl, Nat.zero_add]
theorem qs_QW {LW : (Nat → Nat) → Bool} {k : Nat} {ρ : Nat → Nat} (hk : k ≤ 6) (hj : ∀ p q, p < k → q < k → ρ p = ρ q → p = q) (h8 : ∀ q, q < k → ρ q < 8) : ∀ h, QW k ρ (qs LW k ρ h) := by
  intro h
  induction h with
  | zero =>
    refine ⟨fun i e he => ?_, ?_, fun e e' he he' _ => by rw [List.mem_singleton.mp he, List.mem_singleton.mp he']⟩
    · have hi : i = 0 := by
        by_cases z : i = 0
        · exact z
        · rw [show qs LW k ρ 0 = [(ρ, 0)] from rfl, List.getElem?_eq_none (by show 1 ≤ _; omega)] at he; cases he
      subst hi
      have : e = (ρ, 0) := (Option.some.inj he).symm
      rw [this]
      exact ⟨⟨fun s => Iff.rfl, hj⟩, h8, Nat.le_refl _⟩
    · show [(ρ, 0)].length = s_cn (vis k [(ρ, 0)]) 720
      rw [s_cn_1 (a := rk ρ k) (vis_iff.mpr ⟨(ρ, 0), List.mem_singleton.mpr rfl, rfl⟩) (fun s hs => ?_), if_pos (rk_lt hk)]
      · rfl
      · cases z : vis k [(ρ, 0)] s with
        | false => rfl
        | true =>
          obtain ⟨e, e1, e2⟩ := vis_iff.mp z
          rw [List.mem_singleton.mp e1] at e2
          exact absurd e2.symm hs
  | succ h ih =>
    cases he : (qs LW k ρ h)[h]? with
    | none => rw [qs_n he]; exact ih
    | some e =>
      rw [qs_s he]
      obtain ⟨a, b, c⟩ := ih.1 h e he
      have hl : h < (qs LW k ρ h).length := by
        by_cases z : h < (qs LW k ρ h).length
        · exact z
        · rw [List.getElem?_eq_none (by omega)] at he; cases he
      exact (ti_QW hk ih a b (by omega) k).1
theorem qs_pre {LW : (Nat → Nat) → Bool} {k : Nat} {ρ : Nat → Nat} (hk : k ≤ 6) (hj : ∀ p q, p < k → q < k → ρ p = ρ q → p = q) (h8 : ∀ q, q < k → ρ q < 8) (h : Nat) : ∀ d, qs LW k ρ h <+: qs LW k ρ (h + d) := by
  intro d
  induction d with
  | zero => exact List.prefix_refl _
  | succ d ih =>
    refine List.IsPrefix.trans ih ?_
    show _ <+: qs LW k ρ (h + d + 1)
    have hw := qs_QW (LW := LW) hk hj h8 (h + d)
    cases he : (qs LW k ρ (h + d))[h + d]? with
    | none => rw [qs_n he]; exact List.prefix_refl _
    | some e =>
      rw [qs_s he]
      obtain ⟨a, b, c⟩ := hw.1 _ e he
      have hl : h + d < (qs LW k ρ (h + d)).length := by
        by_cases z : h + d < (qs LW k ρ (h + d)).length
        · exact z
        · rw [List.getElem?_eq_none (by omega)] at he; cases he
      exact (ti_QW hk hw a b (by omega) k).2
theorem qs_end {LW : (Nat → Nat) → Bool} {k : Nat} {ρ : Nat → Nat} {h : Nat} (he : (qs LW k ρ h).length ≤ h) : ∀ d, qs LW k ρ (h + d) = qs LW k ρ h := by
  intro d
  induction d with
  | zero => rfl
  | succ d ih =>
    rw [show h + (d + 1) = h + d + 1 by omega, qs_n (by rw [ih]; exact List.getElem?_eq_none (by omega)), ih]
/-- the answer -/
def AnS (LW : (Nat → Nat) → Bool) (k : Nat) (ρ : Nat → Nat) (g : Nat) (v : Int32) : Prop := (∃ h e, e ∈ qs LW k ρ h ∧ rk e.1 k = g ∧ v = nI e.2) ∨ (v = -2 ∧ ∃ h, (qs LW k ρ h).length ≤ h ∧ ¬ vis k (qs LW k ρ h) g = true)
theorem qs_mem {LW : (Nat → Nat) → Bool} {k : Nat} {ρ : Nat → Nat} (hk : k ≤ 6) (hj : ∀ p q, p < k → q < k → ρ p = ρ q → p = q) (h8 : ∀ q, q < k → ρ q < 8) {h h' : Nat} {e : (Nat → Nat) × Nat} (hh : h ≤ h') (he : e ∈ qs LW k ρ h) : e ∈ qs LW k ρ h' := by
  obtain ⟨d, rfl⟩ : ∃ d, h' = h + d := ⟨h' - h, by omega⟩
  exact (qs_pre hk hj h8 h d).subset he
theorem AnS_eq {LW : (Nat → Nat) → Bool} {k : Nat} {ρ : Nat → Nat} {g : Nat} {v v' : Int32} (hk : k ≤ 6) (hj : ∀ p q, p < k → q < k → ρ p = ρ q → p = q) (h8 : ∀ q, q < k → ρ q < 8) (a : AnS LW k ρ g v) (a' : AnS LW k ρ g v') : v = v' := by
  have no : ∀ h h' e, e ∈ qs LW k ρ h → rk e.1 k = g → (qs LW k ρ h').length ≤ h' → ¬ vis k (qs LW k ρ h') g = true → False := fun h h' e e1 e2 z1 z2 => by
    by_cases l : h ≤ h'
    · exact z2 (vis_iff.mpr ⟨e, qs_mem hk hj h8 l e1, e2⟩)
    · have := qs_end z1 (h - h')
      rw [show h' + (h - h') = h by omega] at this
      rw [this] at e1
      exact z2 (vis_iff.mpr ⟨e, e1, e2⟩)
  rcases a with ⟨h, e, e1, e2, rfl⟩ | ⟨rfl, h, z1, z2⟩
  · rcases a' with ⟨h', e', e1', e2', rfl⟩ | ⟨rfl, h', z1, z2⟩
    · have hw := qs_QW (LW := LW) hk hj h8 (max h h')
      rw [hw.2.2 e e' (qs_mem hk hj h8 (Nat.le_max_left _ _) e1) (qs_mem hk hj h8 (Nat.le_max_right _ _) e1') (e2.trans e2'.symm)]
    · exact (no h h' e e1 e2 z1 z2).elim
  · rcases a' with ⟨h', e', e1', e2', rfl⟩ | ⟨rfl, _⟩
    · exact (no h' h e' e1' e2' z1 z2).elim
    · rfl
