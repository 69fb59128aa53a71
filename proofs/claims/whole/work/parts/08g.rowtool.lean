/-! rows: copied, one taken out, one put in -/
def o_cp (n : Nat) (f g : Nat → Int32) (k : Nat) : Int32 := if k < n then f k else g k
def o_rm (n p : Nat) (f : Nat → Int32) (k : Nat) : Int32 := if p ≤ k ∧ k + 1 < n then f (k + 1) else f k
def o_in (n p : Nat) (s : Int32) (f : Nat → Int32) (k : Nat) : Int32 := if k = p then s else if p < k ∧ k ≤ n then f (k - 1) else f k
/-- a loop whose state is a counter and the memory, told exactly -/
theorem wp_up {E : Type} {body : Int32 × ej_M → Option ((Int32 × ej_M) ⊕ E)} (f : Nat → ej_M) {n i0 : Nat} {m : ej_M} {Q : E → Prop} (hn : n < 1000) (hi : i0 ≤ n) (h0 : f i0 = m) (hs : ∀ i, i0 ≤ i → i < n → body (nI i, f i) = some (Sum.inl (nI (i + 1), f (i + 1)))) (he : oj_wp (body (nI n, f n)) (oj_k (fun _ => False) Q)) : oj_wp (oj_loop body oj_FU (nI i0, m)) Q := by
  refine wp_loop (fun i s => s = (nI i, f i) ∧ i0 ≤ i) n (by unfold oj_FU; omega) (fun i s hi hI => ?_) (fun s hI => ?_) hi ⟨by rw [h0], Nat.le_refl _⟩
  · rw [hI.1]; exact wp_eq (hs i hI.2 hi) ⟨rfl, by omega⟩
  · rw [hI.1]; exact he
theorem wp_dn {E : Type} {body : Int32 × ej_M → Option ((Int32 × ej_M) ⊕ E)} (f : Nat → ej_M) {n i0 : Nat} {m : ej_M} {Q : E → Prop} (hn : i0 < 1000) (hi : n ≤ i0) (h0 : f i0 = m) (hs : ∀ i, i ≤ i0 → n < i → body (nI i, f i) = some (Sum.inl (nI (i - 1), f (i - 1)))) (he : oj_wp (body (nI n, f n)) (oj_k (fun _ => False) Q)) : oj_wp (oj_loop body oj_FU (nI i0, m)) Q := by
  refine wp_loop (fun i s => s = (nI (i0 - i), f (i0 - i)) ∧ i ≤ i0 - n) (i0 - n) (by unfold oj_FU; omega) (fun i s hi hI => ?_) (fun s hI => ?_) (i0 := 0) (by omega) ⟨by rw [Nat.sub_zero, h0], by omega⟩
  · rw [hI.1]; exact wp_eq (hs (i0 - i) (by omega) (by omega)) ⟨by rw [show i0 - (i + 1) = i0 - i - 1 by omega], by omega⟩
  · rw [hI.1, show i0 - (i0 - n) = n by omega]; exact he
theorem wp_get {α : Type} {x : Option α} {a : α} (h : oj_wp x fun q => q = a) : x = some a := by
  obtain ⟨q, h1, h2⟩ := h
  rw [h1, h2]
theorem l_up {E : Type} {body : Int32 × ej_M → Option ((Int32 × ej_M) ⊕ (E × ej_M))} (f : Nat → ej_M) {n i0 : Nat} {e : E} {m : ej_M} (hn : n < 1000) (hi : i0 ≤ n) (h0 : f i0 = m) (hs : ∀ i, i0 ≤ i → i < n → body (nI i, f i) = some (Sum.inl (nI (i + 1), f (i + 1)))) (he : body (nI n, f n) = some (Sum.inr (e, f n))) : oj_loop body oj_FU (nI i0, m) = some (e, f n) :=
  wp_get (wp_up f hn hi h0 hs (wp_eq he rfl))
theorem x_copy {m : ej_M} {a b A B n : Nat} (ha : oj_ar a A) (hb : oj_ar b B) (hab : a ≠ b) (hnA : n ≤ A) (hnB : n ≤ B) (hn : n < 1000) : f_X10_copy a b (nI n) m = some ((), oj_row m b (o_cp n (m.1 a) (m.1 b))) := by
  unfold f_X10_copy f_X10_copy_L2
  refine l_up (fun i => oj_row m b (o_cp i (m.1 a) (m.1 b))) hn (i0 := 0) (by omega) ?_ (fun i hpi hi => ?_) ?_
  · have : o_cp 0 (m.1 a) (m.1 b) = m.1 b := funext fun j => if_neg (by omega)
    simp only [this, oj_row_id]
  · simp only
    unfold f_X10_copy_L2b
    rw [if_neg (fun q => by have := (nI_leI (by omega) (by omega)).mp q; omega), p_at1 ha (by omega), o_bs, p_lay1 hb (by omega), o_bs, nI_1, oj_row_row, oj_row_s, oj_row_n hab]
    have : upd (o_cp i (m.1 a) (m.1 b)) i (m.1 a i) = o_cp (i + 1) (m.1 a) (m.1 b) := by
      funext j
      unfold upd o_cp
      by_cases e : j = i
      · rw [if_pos e, if_pos (by omega), e]
      · rw [if_neg e]
        by_cases e2 : j < i
        · rw [if_pos e2, if_pos (by omega)]
        · rw [if_neg e2, if_neg (by omega)]
    rw [this]
  · simp only
    unfold f_X10_copy_L2b
    rw [if_pos (Int32.le_refl _)]
theorem x_remove {m : ej_M} {a A n p : Nat} (ha : oj_ar a A) (hnA : n ≤ A) (hn : n < 1000) (hp : p < n) : f_X10_remove a (nI n) (nI p) m = some ((), oj_row m a (o_rm n p (m.1 a))) := by
  have hgo : f_X10_remove a (nI n) (nI p) m = some ((), oj_row m a (fun k => if p ≤ k ∧ k < n - 1 then m.1 a (k + 1) else m.1 a k)) := by
    unfold f_X10_remove f_X10_remove_L2
    refine l_up (fun i => oj_row m a (fun k => if p ≤ k ∧ k < i then m.1 a (k + 1) else m.1 a k)) (n := n - 1) (by omega) (i0 := p) (by omega) ?_ (fun i hpi hi => ?_) ?_
    · have : (fun k => if p ≤ k ∧ k < p then m.1 a (k + 1) else m.1 a k) = m.1 a := funext fun j => if_neg (by omega)
      simp only [this, oj_row_id]
    · simp only
      unfold f_X10_remove_L2b
      rw [nI_m1 (by omega), if_neg (fun q => by have := (nI_leI (by omega) (by omega)).mp q; omega), nI_1, p_at1 ha (by omega), o_bs]
      rw [p_lay1 ha (by omega), o_bs, oj_row_row, oj_row_s]
      simp only
      rw [if_neg (by omega)]
      have : upd (fun k => if p ≤ k ∧ k < i then m.1 a (k + 1) else m.1 a k) i (m.1 a (i + 1)) = (fun k => if p ≤ k ∧ k < i + 1 then m.1 a (k + 1) else m.1 a k) := by
        funext j
        unfold upd
        by_cases e : j = i
        · rw [if_pos e, if_pos (by omega), e]
        · simp only [if_neg e]
          by_cases e2 : p ≤ j ∧ j < i
          · rw [if_pos e2, if_pos (by omega)]
          · rw [if_neg e2, if_neg (by omega)]
      rw [this]
    · simp only
      unfold f_X10_remove_L2b
      rw [nI_m1 (by omega), if_pos (Int32.le_refl _)]
  rw [hgo]
  have : (fun k => if p ≤ k ∧ k < n - 1 then m.1 a (k + 1) else m.1 a k) = o_rm n p (m.1 a) := by
    funext j
    unfold o_rm
    by_cases e : p ≤ j ∧ j + 1 < n
    · rw [if_pos e, if_pos (by omega)]
    · rw [if_neg e, if_neg (by omega)]
  rw [this]
theorem x_insert {m : ej_M} {a A n p : Nat} (ha : oj_ar a A) (hnA : n < A) (hn : n < 1000) (hp : p ≤ n) (s : Int32) : f_X10_insert a (nI n) (nI p) s m = some ((), oj_row m a (o_in n p s (m.1 a))) := by
  unfold f_X10_insert f_X10_insert_L3
  refine wp_get (wp_dn (fun i => oj_row m a (fun k => if i < k ∧ k ≤ n then m.1 a (k - 1) else m.1 a k)) hn hp ?_ (fun i hi hpi => ?_) ?_)
  · have : (fun k => if n < k ∧ k ≤ n then m.1 a (k - 1) else m.1 a k) = m.1 a := funext fun j => if_neg (by omega)
    simp only [this, oj_row_id]
  · simp only
    unfold f_X10_insert_L3b
    rw [if_neg (fun q => by have := (nI_leI (by omega) (by omega)).mp q; omega), nI_m1 (by omega), nI_am1 (by omega), p_at1 ha (by omega), o_bs, p_lay1 ha (by omega), o_bs, oj_row_row, oj_row_s]
    simp only
    rw [if_neg (by omega)]
    have : upd (fun k => if i < k ∧ k ≤ n then m.1 a (k - 1) else m.1 a k) i (m.1 a (i - 1)) = (fun k => if i - 1 < k ∧ k ≤ n then m.1 a (k - 1) else m.1 a k) := by
      funext j
      unfold upd
      by_cases e : j = i
      · rw [if_pos e, if_pos (by omega), e]
      · simp only [if_neg e]
        by_cases e2 : i < j ∧ j ≤ n
        · rw [if_pos e2, if_pos (by omega)]
        · rw [if_neg e2, if_neg (by omega)]
    rw [this]
  · simp only
    unfold f_X10_insert_L3b
    rw [if_pos (Int32.le_refl _), p_lay1 ha (by omega), o_bs, oj_row_row, oj_row_s]
    have : upd (fun k => if p < k ∧ k ≤ n then m.1 a (k - 1) else m.1 a k) p s = o_in n p s (m.1 a) := by
      funext j
      unfold upd o_in
      rfl
    rw [this]
    exact wp_some rfl
/-- two places exchanged -/
def o_xc (i j : Nat) (f : Nat → Int32) (k : Nat) : Int32 := if k = j then f i else if k = i then f j else f k
theorem x_exchange {m : ej_M} {a A i j : Nat} (ha : oj_ar a A) (hi : i < A) (hj : j < A) : f_X10_exchange a (nI i) (nI j) m = some ((), oj_row m a (o_xc i j (m.1 a))) := by
  unfold f_X10_exchange
  rw [p_at1 ha hi, o_bs, p_at1 ha hj, o_bs, p_lay1 ha hi, o_bs, p_lay1 ha hj, o_bs, oj_row_row, oj_row_s]
  rfl
/-- a stretch the other way round -/
def o_rv (i j : Nat) (f : Nat → Int32) (k : Nat) : Int32 := if i ≤ k ∧ k ≤ j then f (i + j - k) else f k
theorem o_rv_step {i j q : Nat} (h1 : i + q < j - q) (f : Nat → Int32) : o_xc (i + q) (j - q) (fun k => if (i ≤ k ∧ k < i + q) ∨ (j - q < k ∧ k ≤ j) then f (i + j - k) else f k) = (fun k => if (i ≤ k ∧ k < i + (q + 1)) ∨ (j - (q + 1) < k ∧ k ≤ j) then f (i + j - k) else f k) := by
  funext k
  unfold o_xc
  simp only
  by_cases e1 : k = j - q
  · rw [if_pos e1, if_neg (by omega), if_pos (by omega), e1]; congr 1; omega
  · rw [if_neg e1]
    by_cases e2 : k = i + q
    · rw [if_pos e2, if_neg (by omega), if_pos (by omega), e2]; congr 1; omega
    · rw [if_neg e2]
      by_cases e3 : (i ≤ k ∧ k < i + q) ∨ (j - q < k ∧ k ≤ j)
      · rw [if_pos e3, if_pos (by omega)]
      · rw [if_neg e3, if_neg (by omega)]
theorem o_rv_end {i j q : Nat} (hij : i ≤ j) (h1 : j - q ≤ i + q) (h2 : ∀ r, r < q → i + r < j - r) (f : Nat → Int32) : (fun k => if (i ≤ k ∧ k < i + q) ∨ (j - q < k ∧ k ≤ j) then f (i + j - k) else f k) = o_rv i j f := by
  funext k
  unfold o_rv
  by_cases e : i ≤ k ∧ k ≤ j
  · rw [if_pos e]
    by_cases e2 : (i ≤ k ∧ k < i + q) ∨ (j - q < k ∧ k ≤ j)
    · rw [if_pos e2]
    · rw [if_neg e2]
      congr 1
      omega
  · rw [if_neg e, if_neg]
    rintro (⟨a, b⟩ | ⟨a, b⟩)
    · cases q with
      | zero => omega
      | succ q => have := h2 q (by omega); omega
    · cases q with
      | zero => omega
      | succ q => have := h2 q (by omega); omega
theorem x_reverse {m : ej_M} {a A i j : Nat} (ha : oj_ar a A) (hA : A < 1000) (hij : i ≤ j) (hj : j < A) : f_X10_reverse a (nI i) (nI j) m = some ((), oj_row m a (o_rv i j (m.1 a))) := by
  unfold f_X10_reverse f_X10_reverse_L2
  have hq : ∀ r, r < (j - i + 1) / 2 → i + r < j - r := fun r hr => by omega
  refine wp_get (wp_up (fun q => oj_row m a (fun k => if (i ≤ k ∧ k < i + q) ∨ (j - q < k ∧ k ≤ j) then m.1 a (i + j - k) else m.1 a k)) (n := (j - i + 1) / 2) (i0 := 0) (by omega) (by omega) ?_ (fun q _ hi => ?_) ?_)
  · have : (fun k => if (i ≤ k ∧ k < i + 0) ∨ (j - 0 < k ∧ k ≤ j) then m.1 a (i + j - k) else m.1 a k) = m.1 a := funext fun k => if_neg (by omega)
    simp only [this, oj_row_id]
  · simp only
    unfold f_X10_reverse_L2b
    have := hq q hi
    rw [nI_sub (by omega), nI_add, if_neg (fun x => by have := (nI_leI (by omega) (by omega)).mp x; omega), x_exchange ha (by omega) (by omega), o_bs, oj_row_row, oj_row_s, o_rv_step this, nI_1]
  · simp only
    unfold f_X10_reverse_L2b
    rw [nI_sub (by omega), nI_add, if_pos ((nI_leI (by omega) (by omega)).mpr (by omega)), o_rv_end hij (by omega) hq]
    exact wp_some rfl
