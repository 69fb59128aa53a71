/-! rows, worth, book: one place judged while the row is not whole -/
theorem x_lwLo {P : Option (List (List Int32 × List Int32))} {o N n p t jf : Nat} {ρ : Nat → Nat} {m : ej_M} (hX : LX P m) (hC : CI P t jf m) (ht : t < 2 ^ 28) (ho : oj_ar o N) (hn : n ≤ N) (h9 : n < 10) (hp : p < n) (hρ : ∀ q, q < n → (q = p ∨ q + 1 = pl_l (m.1 6 5) n p ∨ q + 1 = pl_r (m.1 6 5) n p) → m.1 o q = nI (ρ q) ∧ ρ q < 9) :
    oj_wp (f_X4_isLawfulAt o (nI n) (nI p) m) (fun q => q.1 = (if lw P (m.1 7) (m.1 6 5) ρ n p then 1 else 0) ∧ oj_sm XC m q.2 ∧ ∃ t', t ≤ t' ∧ t' ≤ t + (if jf = n then 0 else 1) ∧ CI P t' n q.2) := by
  unfold f_X4_isLawfulAt
  rw [x_left hp (by omega)]
  simp only [Option.bind_some]
  rw [x_right hp (by omega)]
  simp only [Option.bind_some]
  rw [p_at1 ho (by omega), (hρ p hp (Or.inl rfl)).1]
  simp only [Option.bind_some]
  have hlc : lw_c ρ (pl_l (m.1 6 5) n p) < 10 := by
    unfold lw_c
    have := pl_l_le (g := m.1 6 5) hp
    split
    · omega
    · have := (hρ (pl_l (m.1 6 5) n p - 1) (by omega) (Or.inr (Or.inl (by omega)))).2; omega
  have hrc : lw_c ρ (pl_r (m.1 6 5) n p) < 10 := by
    unfold lw_c
    have := pl_r_le (g := m.1 6 5) hp
    split
    · omega
    · have := (hρ (pl_r (m.1 6 5) n p - 1) (by omega) (Or.inr (Or.inr (by omega)))).2; omega
  have e59 : oj_wp (f_X4_isLawfulAt_B59 (nI n) (nI p) (nI (ρ p)) (nI (lw_c ρ (pl_l (m.1 6 5) n p)) - 1) (nI (lw_c ρ (pl_r (m.1 6 5) n p)) - 1) m) (fun q => q.1 = (if lw P (m.1 7) (m.1 6 5) ρ n p then 1 else 0) ∧ oj_sm XC m q.2 ∧ ∃ t', t ≤ t' ∧ t' ≤ t + (if jf = n then 0 else 1) ∧ CI P t' n q.2) := by
    unfold f_X4_isLawfulAt_B59 lw
    simp only [decide_eq_true_eq]
    rw [hC.2.2.1]
    by_cases hj : n = jf
    · subst hj
      rw [if_pos rfl]
      exact wp_mono (x_judged hX hC (by omega) (by omega) (hρ p hp (Or.inl rfl)).2 hlc hrc) fun q hq => ⟨hq.1, hq.2.1, t, Nat.le_refl _, by omega, hq.2.2⟩
    · rw [if_neg (fun e => hj (nI_inj (by omega) (by have := hC.2.2.2.1; omega) e))]
      unfold f_X4_judgeAnew oj_pf
      simp only [Option.bind_some]
      have hC' : CI P (t + 1) n (ej_w (ej_w m 6 15 (nI n)) 6 14 ((ej_w m 6 15 (nI n)).1 6 14 + 1)) := by
        refine CI_anew hC (fun i _ => by rw [w_place (by decide), w_place (by decide)]) ?_ ?_ h9
        · rw [w_same, w_other (by omega), hC.1, nI_1]
        · rw [w_other (by omega), w_same]
      have hs : oj_sm XC m (ej_w (ej_w m 6 15 (nI n)) 6 14 ((ej_w m 6 15 (nI n)).1 6 14 + 1)) := sm_trans (sm_w (Or.inr (Or.inr ⟨rfl, Or.inr rfl⟩))) (sm_w (Or.inr (Or.inr ⟨rfl, Or.inl rfl⟩)))
      have h7 : (ej_w (ej_w m 6 15 (nI n)) 6 14 ((ej_w m 6 15 (nI n)).1 6 14 + 1)).1 7 = m.1 7 := by rw [w_place (by decide), w_place (by decide)]
      refine wp_mono (x_judged (LX_XC hs hX) hC' (by omega) (by omega) (hρ p hp (Or.inl rfl)).2 hlc hrc) fun q hq => ⟨?_, sm_trans hs hq.2.1, t + 1, by omega, ?_, hq.2.2⟩
      · rw [hq.1, h7]
      · rw [if_neg (fun e => hj e.symm)]; exact Nat.le_refl _
  have e41 : oj_wp (f_X4_isLawfulAt_B41 o (nI n) (nI p) (nI (pl_r (m.1 6 5) n p) - 1) (nI (ρ p)) (nI (lw_c ρ (pl_l (m.1 6 5) n p)) - 1) m) (fun q => q.1 = (if lw P (m.1 7) (m.1 6 5) ρ n p then 1 else 0) ∧ oj_sm XC m q.2 ∧ ∃ t', t ≤ t' ∧ t' ≤ t + (if jf = n then 0 else 1) ∧ CI P t' n q.2) := by
    unfold f_X4_isLawfulAt_B41
    have hle := pl_r_le (g := m.1 6 5) hp
    by_cases h0 : pl_r (m.1 6 5) n p = 0
    · rw [if_pos (by rw [h0]; decide)]
      have e : lw_c ρ (pl_r (m.1 6 5) n p) = 0 := by unfold lw_c; rw [if_pos h0]
      rw [e] at e59
      exact e59
    · rw [if_neg (fun e => h0 ((nI_cm1 (by omega)).mp e)), nI_m1 (by omega), p_at1 ho (by omega), (hρ _ (by omega) (Or.inr (Or.inr (by omega)))).1]
      simp only [Option.bind_some]
      have e : lw_c ρ (pl_r (m.1 6 5) n p) = ρ (pl_r (m.1 6 5) n p - 1) + 1 := by unfold lw_c; rw [if_neg h0]
      rw [e, nI_pred] at e59
      exact e59
  have hle := pl_l_le (g := m.1 6 5) hp
  by_cases h0 : pl_l (m.1 6 5) n p = 0
  · rw [if_pos (by rw [h0]; decide)]
    have e : lw_c ρ (pl_l (m.1 6 5) n p) = 0 := by unfold lw_c; rw [if_pos h0]
    rw [e] at e41
    exact e41
  · rw [if_neg (fun e => h0 ((nI_cm1 (by omega)).mp e)), nI_m1 (by omega), p_at1 ho (by omega), (hρ _ (by omega) (Or.inr (Or.inl (by omega)))).1]
    simp only [Option.bind_some]
    have e : lw_c ρ (pl_l (m.1 6 5) n p) = ρ (pl_l (m.1 6 5) n p - 1) + 1 := by unfold lw_c; rw [if_neg h0]
    rw [e, nI_pred] at e41
    exact e41
theorem xk_lo {P : Option (List (List Int32 × List Int32))} {w : Nat → Int32} {g : Int32} {o n p b N : Nat} {ρ : Nat → Nat} {m : ej_M} (hK : XK P w g m) (hC : CN P n b m) (hb : b < 2 ^ 28) (hn : n < 10) (ho : oj_ar o N) (hN : n ≤ N) (hp : p + 1 < n) (hg : 1 ≤ p ∨ g = 0) (hr : ∀ q, q ≤ p + 1 → m.1 o q = nI (ρ q) ∧ ρ q < 8) :
    oj_wp (f_X4_isLawfulAt o (nI n) (nI p) m) fun q => q.1 = (if lw P w g ρ n p then 1 else 0) ∧ oj_sm XC m q.2 ∧ CN P n b q.2 := by
  obtain ⟨t, jf, c1, c2, c3⟩ := hC
  have hl : pl_l (m.1 6 5) n p ≤ p := by
    rw [hK.2.1]
    unfold pl_l
    rcases hg with h | h
    · rw [if_neg (by omega)]; exact Nat.le_refl _
    · by_cases e : p = 0
      · rw [if_pos e, if_pos h]; omega
      · rw [if_neg e]; exact Nat.le_refl _
  have hrr : pl_r (m.1 6 5) n p = p + 2 := by unfold pl_r; rw [if_pos hp]
  refine wp_mono (x_lwLo (ρ := ρ) hK.1 c1 (by omega) ho hN hn (show p < n by omega) (fun q hq hc => ?_)) fun q hq => ⟨?_, hq.2.1, ?_⟩
  · have := hr q (by omega)
    exact ⟨this.1, by omega⟩
  · rw [hq.1]
    have : lw P (m.1 7) (m.1 6 5) ρ n p = lw P w g ρ n p := by
      rw [hK.2.1]
      rw [hK.2.1] at hl hrr
      unfold lw
      have e1 : lw_w (m.1 7) (lw_c ρ (pl_l g n p)) = lw_w w (lw_c ρ (pl_l g n p)) := by
        cases h : pl_l g n p with
        | zero => rfl
        | succ c => rw [lw_c_s, lw_w_s, lw_w_s]; exact hK.2.2 _ (hr c (by omega)).2
      have e2 : lw_w (m.1 7) (lw_c ρ (pl_r g n p)) = lw_w w (lw_c ρ (pl_r g n p)) := by
        rw [hrr, lw_c_s, lw_w_s, lw_w_s]
        exact hK.2.2 _ (hr (p + 1) (by omega)).2
      rw [e1, e2, hK.2.2 _ (hr p (by omega)).2]
    rw [this]
  · obtain ⟨t', k1, k2, k3⟩ := hq.2.2
    refine ⟨t', n, k3, ?_, Or.inl rfl⟩
    by_cases hj : jf = n
    · rw [if_pos hj] at k2; omega
    · rw [if_neg hj] at k2; omega
theorem lw_loc {P : Option (List (List Int32 × List Int32))} {w : Nat → Int32} {g : Int32} {n p : Nat} {ρ ρ' : Nat → Nat} (hp : p + 1 < n) (hg : 1 ≤ p ∨ g = 0) (h : ∀ q, q ≤ p + 1 → ρ q = ρ' q) : lw P w g ρ n p = lw P w g ρ' n p := by
  have hl : pl_l g n p ≤ p := by
    unfold pl_l
    rcases hg with h | h
    · rw [if_neg (by omega)]; exact Nat.le_refl _
    · by_cases e : p = 0
      · rw [if_pos e, if_pos h]; omega
      · rw [if_neg e]; exact Nat.le_refl _
  have hrr : pl_r g n p = p + 2 := by unfold pl_r; rw [if_pos hp]
  unfold lw
  have e1 : lw_c ρ (pl_l g n p) = lw_c ρ' (pl_l g n p) := by
    cases h2 : pl_l g n p with
    | zero => rfl
    | succ c => rw [lw_c_s, lw_c_s, h c (by omega)]
  have e2 : lw_c ρ (pl_r g n p) = lw_c ρ' (pl_r g n p) := by rw [hrr, lw_c_s, lw_c_s, h (p + 1) (by omega)]
  rw [e1, e2, h p (by omega)]
-- all orders
def upN (r : Nat → Nat) (p s q : Nat) : Nat := if q = p then s else r q
def ls (F : Nat → Nat → Bool) (LW : (Nat → Nat) → Bool) : Nat → Nat → Nat → (Nat → Nat) → List (Nat → Nat)
  | 0, _, _, r => if LW r = true then [r] else []
  | f + 1, p, S, r => (List.range 8).flatMap fun s => if (sb S s && F p s) = true then ls F LW f (p + 1) (S - 2 ^ s) (upN r p s) else []
def lsG (F : Nat → Nat → Bool) (LW : (Nat → Nat) → Bool) (f p S : Nat) (r : Nat → Nat) (s : Nat) : List (Nat → Nat) := if (sb S s && F p s) = true then ls F LW f (p + 1) (S - 2 ^ s) (upN r p s) else []
theorem ls_s {F : Nat → Nat → Bool} {LW : (Nat → Nat) → Bool} {f p S : Nat} {r : Nat → Nat} : ls F LW (f + 1) p S r = (List.range 8).flatMap (lsG F LW f p S r) := rfl
theorem ls_mem {F : Nat → Nat → Bool} {LW : (Nat → Nat) → Bool} : ∀ f p S (r r' : Nat → Nat), r' ∈ ls F LW f p S r → (∀ q, q < p → r' q = r q) ∧ LW r' = true := by
  intro f
  induction f with
  | zero =>
    intro p S r r' h
    unfold ls at h
    by_cases e : LW r = true
    · rw [if_pos e] at h
      have : r' = r := by simpa using h
      subst this
      exact ⟨fun q _ => rfl, e⟩
    · rw [if_neg e] at h
      exact absurd h (List.not_mem_nil)
  | succ f ih =>
    intro p S r r' h
    rw [ls_s, List.mem_flatMap] at h
    obtain ⟨s, _, h2⟩ := h
    unfold lsG at h2
    by_cases e : (sb S s && F p s) = true
    · rw [if_pos e] at h2
      obtain ⟨a, b⟩ := ih _ _ _ _ h2
      refine ⟨fun q hq => ?_, b⟩
      rw [a q (by omega)]
      unfold upN
      rw [if_neg (by omega)]
    · rw [if_neg e] at h2
      exact absurd h2 (List.not_mem_nil)
theorem flat_len {G : Nat → List (Nat → Nat)} {B : Nat} (h : ∀ s, (G s).length ≤ B) : ∀ s, ((List.range s).flatMap G).length ≤ s * B := by
  intro s
  induction s with
  | zero => simp
  | succ s ih =>
    rw [List.range_succ, List.flatMap_append, List.length_append, Nat.succ_mul]
    have := h s
    simp only [List.flatMap_cons, List.flatMap_nil, List.append_nil]
    omega
theorem ls_len {F : Nat → Nat → Bool} {LW : (Nat → Nat) → Bool} : ∀ f p S (r : Nat → Nat), (ls F LW f p S r).length ≤ 8 ^ f := by
  intro f
  induction f with
  | zero => intro p S r; unfold ls; split <;> simp
  | succ f ih =>
    intro p S r
    rw [ls_s, Nat.pow_succ, Nat.mul_comm]
    refine flat_len (fun s => ?_) 8
    unfold lsG
    split
    · exact ih _ _ _
    · simp
theorem flat_succ {G : Nat → List (Nat → Nat)} {s : Nat} : (List.range (s + 1)).flatMap G = (List.range s).flatMap G ++ G s := by
  rw [List.range_succ, List.flatMap_append]
  simp only [List.flatMap_cons, List.flatMap_nil, List.append_nil]
theorem flat_split {G : Nat → List (Nat → Nat)} {s : Nat} : ∀ M, s ≤ M → ∃ l, (List.range M).flatMap G = (List.range s).flatMap G ++ l := by
  intro M
  induction M with
  | zero => intro h; exact ⟨[], by rw [show s = 0 by omega]; rfl⟩
  | succ M ih =>
    intro h
    by_cases e : s = M + 1
    · exact ⟨[], by rw [e, List.append_nil]⟩
    · obtain ⟨l, hl⟩ := ih (by omega)
      exact ⟨l ++ G M, by rw [flat_succ, hl, List.append_assoc]⟩
theorem flat_stop {G : Nat → List (Nat → Nat)} {N : Nat} : ∀ M, N ≤ M → (∀ s, N ≤ s → s < M → G s = []) → (List.range M).flatMap G = (List.range N).flatMap G := by
  intro M
  induction M with
  | zero => intro h _; rw [show N = 0 by omega]
  | succ M ih =>
    intro h hG
    by_cases e : N = M + 1
    · rw [e]
    · rw [flat_succ, hG M (by omega) (by omega), List.append_nil]
      exact ih (by omega) fun s h1 h2 => hG s h1 (by omega)
/-- one row more that is lawful -/
def st1 (one : Bool) (x : Nat × (Nat → Nat)) (r : Nat → Nat) : Nat × (Nat → Nat) := if one = true ∧ 1 ≤ x.1 then x else (x.1 + 1, if x.1 = 0 then r else x.2)
theorem st1_stuck {one : Bool} {x : Nat × (Nat → Nat)} (h : one = true ∧ 1 ≤ x.1) : ∀ l : List (Nat → Nat), l.foldl (st1 one) x = x := by
  intro l
  induction l with
  | nil => rfl
  | cons r l ih => rw [List.foldl_cons]; unfold st1; rw [if_pos h]; exact ih
theorem st1_le {one : Bool} : ∀ (l : List (Nat → Nat)) (x : Nat × (Nat → Nat)), (l.foldl (st1 one) x).1 ≤ x.1 + l.length := by
  intro l
  induction l with
  | nil => intro x; exact Nat.le_refl _
  | cons r l ih =>
    intro x
    rw [List.foldl_cons, List.length_cons]
    refine Nat.le_trans (ih _) ?_
    unfold st1
    split
    · omega
    · simp only; omega
theorem st1_one : ∀ (l : List (Nat → Nat)) (x : Nat × (Nat → Nat)), x.1 ≤ 1 → (l.foldl (st1 true) x).1 ≤ 1 := by
  intro l
  induction l with
  | nil => intro x h; exact h
  | cons r l ih =>
    intro x h
    rw [List.foldl_cons]
    refine ih _ ?_
    unfold st1
    split
    · exact h
    · next h2 => simp only; have : ¬ 1 ≤ x.1 := fun q => h2 ⟨rfl, q⟩; omega
/-- the first one alone, and all -/
theorem st1_both (l : List (Nat → Nat)) (r0 : Nat → Nat) : ((l.foldl (st1 true) (0, r0)).1 = 0 ↔ (l.foldl (st1 false) (0, r0)).1 = 0) ∧ ((l.foldl (st1 false) (0, r0)).1 ≠ 0 → (l.foldl (st1 true) (0, r0)).2 = (l.foldl (st1 false) (0, r0)).2) := by
  have key : ∀ (l : List (Nat → Nat)) (x : Nat × (Nat → Nat)), 1 ≤ x.1 → 1 ≤ (l.foldl (st1 false) x).1 ∧ (l.foldl (st1 false) x).2 = x.2 := by
    intro l
    induction l with
    | nil => intro x h; exact ⟨h, rfl⟩
    | cons r l ih =>
      intro x h
      rw [List.foldl_cons]
      have e : st1 false x r = (x.1 + 1, x.2) := by
        unfold st1
        rw [if_neg (fun q => by cases q.1), if_neg (by omega)]
      rw [e]
      have := ih (x.1 + 1, x.2) (by simp only; omega)
      exact this
  cases l with
  | nil => exact ⟨Iff.rfl, fun _ => rfl⟩
  | cons r l =>
    rw [List.foldl_cons, List.foldl_cons]
    have e1 : st1 true (0, r0) r = (1, r) := by
      unfold st1
      rw [if_neg (fun q => absurd (show 1 ≤ 0 from q.2) (by decide)), if_pos rfl]
    have e2 : st1 false (0, r0) r = (1, r) := by
      unfold st1
      rw [if_neg (fun q => by cases q.1), if_pos rfl]
    rw [e1, e2, st1_stuck ⟨rfl, Nat.le_refl _⟩]
    obtain ⟨a, b⟩ := key l (1, r) (Nat.le_refl _)
    exact ⟨⟨fun q => absurd (show (1 : Nat) = 0 from q) (by decide), fun q => absurd a (by rw [q]; decide)⟩, fun _ => b.symm⟩
-- how many there can be: no more than the orders of as many stones
theorem st1_all : ∀ (l : List (Nat → Nat)) (x : Nat × (Nat → Nat)), (l.foldl (st1 false) x).1 = x.1 + l.length := by
  intro l
  induction l with
  | nil => intro x; rfl
  | cons r l ih =>
    intro x
    rw [List.foldl_cons, List.length_cons, ih]
    unfold st1
    rw [if_neg (fun q => by cases q.1)]
    simp only
    omega
def o_fac : Nat → Nat
  | 0 => 1
  | n + 1 => (n + 1) * o_fac n
theorem o_fac8 {n : Nat} (h : n ≤ 8) : o_fac n ≤ 40320 := (by decide +kernel : ∀ n, n < 9 → o_fac n ≤ 40320) n (by omega)
theorem flat_cnt {G : Nat → List (Nat → Nat)} {B : Nat} {c : Nat → Bool} (h : ∀ s, (G s).length ≤ if c s = true then B else 0) : ∀ s, ((List.range s).flatMap G).length ≤ s_cn c s * B := by
  intro s
  induction s with
  | zero => simp
  | succ s ih =>
    rw [flat_succ, List.length_append]
    have := h s
    by_cases e : c s = true
    · rw [s_cn_s1 e, Nat.succ_mul]
      rw [if_pos e] at this
      omega
    · rw [s_cn_s0 e]
      rw [if_neg e] at this
      omega
def SOx (a j : Nat) : Prop := XC a j ∨ a = 20 ∨ a = 21 ∨ (a = 18 ∧ j = 5)
def OX (n : Nat) (x : Nat × (Nat → Nat)) (m : ej_M) : Prop := m.1 18 5 = nI x.1 ∧ (1 ≤ x.1 → ∀ q, q < n → m.1 21 q = nI (x.2 q))
theorem bc_sub : ∀ S, S < 256 → ∀ s, s < 8 → sb S s = true → bc (S - 2 ^ s) + 1 = bc S := by decide +kernel
def CH (P : Option (List (List Int32 × List Int32))) (w : Nat → Int32) (g : Int32) (n p : Nat) (r : Nat → Nat) : Prop := ∀ q, q + 1 < p → (1 ≤ q ∨ g = 0) → lw P w g r n q = true
theorem x_finish {P : Option (List (List Int32 × List Int32))} {w : Nat → Int32} {g : Int32} {n b : Nat} {one : Bool} {r : Nat → Nat} {x : Nat × (Nat → Nat)} {m : ej_M} (hn8 : n ≤ 8) (hb : b < 2 ^ 28) (hK : XK P w g m) (hC : CN P n b m) (h4 : m.1 18 4 = nI n) (hr : ∀ q, q < n → m.1 20 q = nI (r q) ∧ r q < 8) (hch : CH P w g n n r) (hO : OX n x m) (hx2 : x.1 < 2 ^ 31) (h1 : one = true → x.1 = 0) :
    oj_wp (f_X3_finish m) fun q => OX n ((if LWf P w g n r = true then [r] else []).foldl (st1 one) x) q.2 ∧ oj_sm SOx m q.2 ∧ CN P n b q.2 ∧ ∀ q', q' < n → q.2.1 20 q' = m.1 20 q' := by
  have fin : ∀ m1 : ej_M, oj_sm XC m m1 → CN P n b m1 → LWf P w g n r = true → oj_wp (f_X3_finish_B51 m1) fun q => OX n ((if LWf P w g n r = true then [r] else []).foldl (st1 one) x) q.2 ∧ oj_sm SOx m q.2 ∧ CN P n b q.2 ∧ ∀ q', q' < n → q.2.1 20 q' = m.1 20 q' := fun m1 hs hc hl => by
    have e5 : m1.1 18 5 = nI x.1 := (hs.2 18 5 (by unfold XC; omega)).trans hO.1
    have e4 : m1.1 18 4 = nI n := (hs.2 18 4 (by unfold XC; omega)).trans h4
    have es : (if LWf P w g n r = true then [r] else []).foldl (st1 one) x = (x.1 + 1, if x.1 = 0 then r else x.2) := by
      rw [if_pos hl, List.foldl_cons, List.foldl_nil]
      unfold st1
      rw [if_neg (fun q => by have := h1 q.1; omega)]
    rw [es]
    have tail : ∀ m2 : ej_M, oj_sm (fun a _ => a = 21) m1 m2 → (∀ q, q < n → m2.1 21 q = nI ((if x.1 = 0 then r else x.2) q)) → oj_wp (f_X3_finish_B73 m2) fun q => OX n (x.1 + 1, if x.1 = 0 then r else x.2) q.2 ∧ oj_sm SOx m q.2 ∧ CN P n b q.2 ∧ ∀ q', q' < n → q.2.1 20 q' = m.1 20 q' := fun m2 hs2 hf => by
      unfold f_X3_finish_B73 oj_pf
      rw [o_bs, hs2.2 18 5 (by omega), e5, nI_1]
      have hs3 : oj_sm (fun a j => a = 21 ∨ (a = 18 ∧ j = 5)) m1 (ej_w m2 18 5 (nI (x.1 + 1))) := sm_trans (sm_mono hs2 fun a j q => Or.inl q) (sm_w (Or.inr ⟨rfl, rfl⟩))
      refine wp_some ⟨⟨w_same, fun _ q hq => ?_⟩, sm_trans (sm_mono hs fun a j q => Or.inl q) (sm_mono hs3 fun a j q => by unfold SOx; omega), CN_fr hs3 hc (fun i => by omega) (by omega) (by omega) (fun i hi => by omega), fun q' _ => ?_⟩
      · simp only; rw [w_place (by decide)]; exact hf q hq
      · simp only; rw [w_place (by decide), hs2.2 20 q' (by omega), hs.2 20 q' (by unfold XC; omega)]
    unfold f_X3_finish_B51
    rw [e5]
    by_cases e0 : x.1 = 0
    · rw [if_pos (by rw [e0]; rfl), e4, x_copy ar_20 ar_21 (by decide) hn8 hn8 (by omega), o_bs]
      refine tail _ (sm_a fun j => rfl) fun q hq => ?_
      rw [oj_row_s, if_pos e0]
      unfold o_cp
      rw [if_pos hq, hs.2 20 q (by unfold XC; omega)]
      exact (hr q hq).1
    · rw [if_neg (fun q => by
        have h5 := hO.1
        by_cases hbig : x.1 < 2 ^ 31
        · exact e0 ((nI_eq0 hbig).mp q)
        · exact hbig hx2)]
      refine tail m1 sm_refl fun q hq => ?_
      rw [if_neg e0, hs.2 21 q (by unfold XC; omega)]
      exact hO.2 (by omega) q hq
  have bad : ∀ m1 : ej_M, oj_sm XC m m1 → CN P n b m1 → ¬ LWf P w g n r = true → oj_wp (some ((), m1)) fun q => OX n ((if LWf P w g n r = true then [r] else []).foldl (st1 one) x) q.2 ∧ oj_sm SOx m q.2 ∧ CN P n b q.2 ∧ ∀ q', q' < n → q.2.1 20 q' = m.1 20 q' := fun m1 hs hc hl => by
    rw [if_neg hl, List.foldl_nil]
    refine wp_some ⟨⟨(hs.2 18 5 (by unfold XC; omega)).trans hO.1, fun h q hq => (hs.2 21 q (by unfold XC; omega)).trans (hO.2 h q hq)⟩, sm_mono hs fun a j q => Or.inl q, hc, fun q' _ => hs.2 20 q' (by unfold XC; omega)⟩
  unfold f_X3_finish
  rw [h4]
  by_cases e : n = 0
  · rw [if_pos (show nI n ≤ 0 by rw [e]; decide)]
    refine fin m sm_refl hC ?_
    unfold LWf lwA
    exact decide_eq_true fun p hp => by omega
  · rw [if_neg (show ¬ nI n ≤ 0 from fun q => by have := (nI_leI (b := 0) (by omega) (by decide)).mp q; omega), nI_m1 (by omega)]
    refine wp_bind (wp_mono (xk_atC (ρ := r) hK hC hb (by omega) ar_20 (by omega) hr (show n - 1 < n by omega)) fun q hq => ?_)
    obtain ⟨q1, q2, q3⟩ := hq
    by_cases l1 : lw P w g r n (n - 1) = true
    · rw [q1, if_pos l1, if_neg i10]
      rw [q2.2 18 4 (by unfold XC; omega), h4]
      refine wp_bind (wp_mono (xk_atC (p := 0) (ρ := r) (XK_go (sm_XC q2) hK) q3 hb (by omega) ar_20 (by omega) (fun q' hq' => ⟨(q2.2 20 q' (by unfold XC; omega)).trans (hr q' hq').1, (hr q' hq').2⟩) (by omega)) fun t ht => ?_)
      obtain ⟨t1, t2, t3⟩ := ht
      by_cases l2 : lw P w g r n 0 = true
      · rw [t1, if_pos l2, if_neg i10]
        refine fin t.2 (sm_trans q2 t2) t3 ?_
        unfold LWf lwA
        refine decide_eq_true fun p hp => ?_
        by_cases e1 : p = 0
        · rw [e1]; exact l2
        · by_cases e2 : p = n - 1
          · rw [e2]; exact l1
          · exact hch p (by omega) (Or.inl (by omega))
      · rw [t1, if_neg l2, if_pos rfl]
        refine bad t.2 (sm_trans q2 t2) t3 fun hl => l2 ?_
        unfold LWf lwA at hl
        exact (of_decide_eq_true (p := ∀ p, p < n → lw P w g r n p = true) hl) 0 (by omega)
    · rw [q1, if_neg l1, if_pos rfl]
      refine bad q.2 q2 q3 fun hl => l1 ?_
      unfold LWf lwA at hl
      exact (of_decide_eq_true (p := ∀ p, p < n → lw P w g r n p = true) hl) (n - 1) (by omega)
theorem ls_fac {F : Nat → Nat → Bool} {LW : (Nat → Nat) → Bool} : ∀ f p S (r : Nat → Nat), bc S = f → S < 256 → (ls F LW f p S r).length ≤ o_fac f := by
  intro f
  induction f with
  | zero => intro p S r _ _; unfold ls; split <;> simp [o_fac]
  | succ f ih =>
    intro p S r hS hS2
    rw [ls_s]
    have := flat_cnt (G := lsG F LW f p S r) (B := o_fac f) (c := sb S) (fun s => by
      unfold lsG
      by_cases es : sb S s = true
      · rw [if_pos es]
        split
        · have e8 : s < 8 := by
            by_cases z : s < 8
            · exact z
            · rw [sb_hi (Nat.lt_of_lt_of_le (show S < 2 ^ 8 from hS2) (pw_le (by omega)))] at es
              cases es
          have := bc_sub S hS2 s e8 es
          exact ih _ _ _ (by omega) (Nat.lt_of_le_of_lt (Nat.sub_le _ _) hS2)
        · exact Nat.zero_le _
      · have esf : sb S s = false := by simpa using es
        rw [esf, Bool.false_and, if_neg (by decide), if_neg (by decide)]
        exact Nat.le_refl _) 8
    rw [show s_cn (sb S) 8 = f + 1 from hS] at this
    exact this
theorem g_fill (n : Nat) (v1 v2 : Int32) (m : ej_M) : g_X3_fill (n + 1) v1 v2 m = f_X3_fill_e (g_X3_fill n) v1 v2 m := rfl
theorem x_fill {P : Option (List (List Int32 × List Int32))} {w : Nat → Int32} {g : Int32} {n b : Nat} {one : Bool} {F : Nat → Nat → Bool} {fv : Nat → Int32} (hn8 : n ≤ 8) (hb : b < 2 ^ 28) (hg : g = 0 ∨ g = 1) (hF : ∀ p s, p < n → s < 8 → (F p s = true ↔ (fv p = -1 ∨ fv p = nI s))) :
    ∀ (f p S K : Nat) (r : Nat → Nat) (x : Nat × (Nat → Nat)) (m : ej_M), bc S = f → S < 256 → p + f = n → XK P w g m → CN P n b m → m.1 18 4 = nI n → m.1 18 6 = (if one = true then 1 else 40320) → (∀ q, q < 8 → m.1 19 q = fv q) → (∀ q, q < p → m.1 20 q = nI (r q) ∧ r q < 8) → CH P w g n p r → OX n x m → x.1 + 8 ^ f < 2 ^ 30 → (one = true → x.1 = 0) → (one = false → x.1 + (ls F (LWf P w g n) f p S r).length ≤ 40320) →
    oj_wp (g_X3_fill (f + K + 1) (nI p) (nI S) m) fun q => OX n ((ls F (LWf P w g n) f p S r).foldl (st1 one) x) q.2 ∧ oj_sm SOx m q.2 ∧ CN P n b q.2 ∧ ∀ q', q' < p → q.2.1 20 q' = m.1 20 q' := by
  intro f
  induction f with
  | zero =>
    intro p S K r x m hS hS2 hpn hK hC h4 h6 h19 hr hch hO hx h1 hcap
    have : p = n := by omega
    subst this
    rw [g_fill]
    unfold f_X3_fill_e
    rw [h4, if_neg (fun q => by have := (nI_ltI (by omega) (by omega)).mp q; omega)]
    refine wp_bind (wp_mono (x_finish (one := one) hn8 hb hK hC h4 hr hch hO (by omega) h1) fun q hq => wp_some hq)
  | succ f ih =>
    intro p S K r x m hS hS2 hpn hK hC h4 h6 h19 hr hch hO hx h1 hcap
    have h8f : 8 ^ (f + 1) = 8 * 8 ^ f := by rw [Nat.pow_succ, Nat.mul_comm]
    have hp8 : 0 < 8 ^ f := Nat.pow_pos (by decide)
    rw [show f + 1 + K + 1 = (f + K + 1) + 1 by omega, g_fill]
    unfold f_X3_fill_e
    rw [h4, if_pos ((nI_ltI (by omega) (by omega)).mpr (by omega))]
    unfold f_X3_fill_L15
    refine wp_loop (fun s (z : Int32 × ej_M) => z.1 = nI s ∧ OX n (((List.range s).flatMap (lsG F (LWf P w g n) f p S r)).foldl (st1 one) x) z.2 ∧ oj_sm SOx m z.2 ∧ CN P n b z.2 ∧ ∀ q', q' < p → z.2.1 20 q' = m.1 20 q') 8 (by decide) (fun s z hs hI => ?_) (fun z hI => ?_) (i0 := 0) (by decide) ⟨rfl, hO, sm_refl, hC, fun _ _ => rfl⟩
    · obtain ⟨a, m1⟩ := z
      obtain ⟨rfl, i1, i2, i3, i4⟩ := hI
      simp only at i1 i2 i3 i4 ⊢
      have hc1 := st1_le (one := one) ((List.range s).flatMap (lsG F (LWf P w g n) f p S r)) x
      have hlen := flat_len (G := lsG F (LWf P w g n) f p S r) (B := 8 ^ f) (fun s => by
        unfold lsG
        split
        · exact ls_len _ _ _ _
        · simp) s
      have hs8 : s * 8 ^ f + 8 ^ f ≤ 8 * 8 ^ f := by
        have := Nat.mul_le_mul_right (8 ^ f) (show s + 1 ≤ 8 by omega)
        rw [Nat.succ_mul] at this
        exact this
      -- what is found ahead of s, at s and behind it
      have hsp : one = false → (((List.range s).flatMap (lsG F (LWf P w g n) f p S r)).foldl (st1 one) x).1 + (lsG F (LWf P w g n) f p S r s).length ≤ 40320 ∧ ∀ l, (List.range 8).flatMap (lsG F (LWf P w g n) f p S r) = (List.range s).flatMap (lsG F (LWf P w g n) f p S r) ++ l → 40320 ≤ (((List.range s).flatMap (lsG F (LWf P w g n) f p S r)).foldl (st1 one) x).1 → l = [] := fun ho => by
        have hc := hcap ho
        rw [ls_s] at hc
        rw [ho, st1_all]
        refine ⟨?_, fun l hl h2 => ?_⟩
        · obtain ⟨l, hl⟩ := flat_split (G := lsG F (LWf P w g n) f p S r) 8 (show s + 1 ≤ 8 by omega)
          rw [hl, flat_succ, List.length_append, List.length_append] at hc
          omega
        · rw [hl, List.length_append] at hc
          exact List.eq_nil_of_length_eq_zero (by omega)
      generalize hxs : ((List.range s).flatMap (lsG F (LWf P w g n) f p S r)).foldl (st1 one) x = xs at i1 hc1 hsp
      have hxb : xs.1 + 8 ^ f < 2 ^ 30 := by omega
      have e6 : m1.1 18 6 = (if one = true then 1 else 40320) := (i2.2 18 6 (by unfold SOx XC; omega)).trans h6
      have next : ∀ (m2 : ej_M), lsG F (LWf P w g n) f p S r s = [] → OX n xs m2 → oj_sm SOx m m2 → CN P n b m2 → (∀ q', q' < p → m2.1 20 q' = m.1 20 q') → oj_wp (some (Sum.inl (nI s + 1, m2) : (Int32 × ej_M) ⊕ (Unit × ej_M))) (oj_k (fun z => z.1 = nI (s + 1) ∧ OX n (((List.range (s + 1)).flatMap (lsG F (LWf P w g n) f p S r)).foldl (st1 one) x) z.2 ∧ oj_sm SOx m z.2 ∧ CN P n b z.2 ∧ ∀ q', q' < p → z.2.1 20 q' = m.1 20 q') fun q => OX n ((ls F (LWf P w g n) (f + 1) p S r).foldl (st1 one) x) q.2 ∧ oj_sm SOx m q.2 ∧ CN P n b q.2 ∧ ∀ q', q' < p → q.2.1 20 q' = m.1 20 q') := fun m2 a1 a2 a3 a4 a5 => by
        refine wp_inl ⟨nI_1 s, ?_, a3, a4, a5⟩
        rw [flat_succ, List.foldl_append, hxs, a1, List.foldl_nil]
        exact a2
      unfold f_X3_fill_L15b
      rw [if_neg (show ¬ (8 : Int32) ≤ nI s from fun q => by have := (nI_leI (a := 8) (by decide) (by omega)).mp q; omega), e6, i1.1]
      by_cases hst : one = true ∧ 1 ≤ xs.1
      · -- enough is found
        rw [if_pos (show (if one = true then (1 : Int32) else 40320) ≤ nI xs.1 from by rw [if_pos hst.1]; exact (nI_leI (a := 1) (by decide) (by omega)).mpr hst.2)]
        refine wp_inr ⟨?_, i2, i3, i4⟩
        obtain ⟨l, hl⟩ := flat_split (G := lsG F (LWf P w g n) f p S r) 8 (show s ≤ 8 by omega)
        rw [ls_s, hl, List.foldl_append, hxs, st1_stuck hst]
        exact i1
      by_cases hst2 : one = false ∧ 40320 ≤ xs.1
      · -- all are found
        rw [if_pos (show (if one = true then (1 : Int32) else 40320) ≤ nI xs.1 from by rw [hst2.1, if_neg (by decide)]; exact (nI_leI (a := 40320) (by decide) (by omega)).mpr hst2.2)]
        refine wp_inr ⟨?_, i2, i3, i4⟩
        obtain ⟨l, hl⟩ := flat_split (G := lsG F (LWf P w g n) f p S r) 8 (show s ≤ 8 by omega)
        rw [ls_s, hl, List.foldl_append, hxs, (hsp hst2.1).2 l hl hst2.2]
        exact i1
      have hone0 : one = true → xs.1 = 0 := fun h => by
        by_cases q : 1 ≤ xs.1
        · exact absurd ⟨h, q⟩ hst
        · omega
      rw [if_neg (show ¬ (if one = true then (1 : Int32) else 40320) ≤ nI xs.1 from fun q => by
        by_cases h : one = true
        · rw [if_pos h] at q
          have := (nI_leI (a := 1) (by decide) (by omega)).mp q
          have := hone0 h
          omega
        · rw [if_neg h] at q
          have h40 := (nI_leI (a := 40320) (by decide) (by omega)).mp q
          exact hst2 ⟨by simpa using h, h40⟩)]
      by_cases es : sb S s = true
      · rw [if_neg (fun q => ((sb_0 (by omega) (by omega)).mp q) es), p_at1 ar_19 (by omega), o_bs, i2.2 19 p (by unfold SOx XC; omega), h19 p (by omega)]
        have hgo : F p s = true → oj_wp (f_X3_fill_B67 (g_X3_fill (f + K + 1)) (nI p) (nI S) (nI s) m1) (oj_k (fun z => z.1 = nI (s + 1) ∧ OX n (((List.range (s + 1)).flatMap (lsG F (LWf P w g n) f p S r)).foldl (st1 one) x) z.2 ∧ oj_sm SOx m z.2 ∧ CN P n b z.2 ∧ ∀ q', q' < p → z.2.1 20 q' = m.1 20 q') fun q => OX n ((ls F (LWf P w g n) (f + 1) p S r).foldl (st1 one) x) q.2 ∧ oj_sm SOx m q.2 ∧ CN P n b q.2 ∧ ∀ q', q' < p → q.2.1 20 q' = m.1 20 q') := fun hFs => by
          have hG : lsG F (LWf P w g n) f p S r s = ls F (LWf P w g n) f (p + 1) (S - 2 ^ s) (upN r p s) := by unfold lsG; rw [es, hFs]; rfl
          unfold f_X3_fill_B67
          rw [p_lay1 ar_20 (by omega), o_bs]
          have hs2 : oj_sm (fun a _ => a = 20) m1 (oj_row m1 20 (upd (m1.1 20) p (nI s))) := sm_a fun j => rfl
          have e20 : ∀ q, q < p + 1 → (oj_row m1 20 (upd (m1.1 20) p (nI s))).1 20 q = nI (upN r p s q) ∧ upN r p s q < 8 := fun q hq => by
            rw [oj_row_s]
            unfold upd upN
            by_cases e : q = p
            · rw [if_pos e, if_pos e]; exact ⟨rfl, by omega⟩
            · rw [if_neg e, if_neg e, i4 q (by omega)]; exact hr q (by omega)
          have e20o : ∀ q, q < p → (oj_row m1 20 (upd (m1.1 20) p (nI s))).1 20 q = m.1 20 q := fun q hq => by
            rw [oj_row_s]
            unfold upd
            rw [if_neg (by omega)]; exact i4 q hq
          have hsS : oj_sm SOx m (oj_row m1 20 (upd (m1.1 20) p (nI s))) := sm_trans i2 (sm_mono hs2 fun a j q => by unfold SOx; omega)
          have hC2 : CN P n b (oj_row m1 20 (upd (m1.1 20) p (nI s))) := CN_row i3 (by decide)
          have hO2 : OX n xs (oj_row m1 20 (upd (m1.1 20) p (nI s))) := ⟨(hs2.2 18 5 (by omega)).trans i1.1, fun h q hq => (hs2.2 21 q (by omega)).trans (i1.2 h q hq)⟩
          generalize oj_row m1 20 (upd (m1.1 20) p (nI s)) = m2 at hs2 e20 e20o hsS hC2 hO2 ⊢
          have hX : ∀ {m3 : ej_M}, oj_sm SOx m m3 → oj_sm SX m m3 := fun {m3} h => sm_mono h fun a j q => by unfold SOx XC at q; unfold SX; omega
          have hK2 := XK_go (hX hsS) hK
          -- the row goes on
          have good : ∀ m3 : ej_M, oj_sm XC m2 m3 → CN P n b m3 → CH P w g n (p + 1) (upN r p s) → oj_wp ((g_X3_fill (f + K + 1) (nI p + 1) (nI S &&& (((1 : Int32) <<< (nI s &&& 31)) ^^^ (-1))) m3).bind fun q3 => some (Sum.inl (nI s + 1, q3.2) : (Int32 × ej_M) ⊕ (Unit × ej_M))) (oj_k (fun z => z.1 = nI (s + 1) ∧ OX n (((List.range (s + 1)).flatMap (lsG F (LWf P w g n) f p S r)).foldl (st1 one) x) z.2 ∧ oj_sm SOx m z.2 ∧ CN P n b z.2 ∧ ∀ q', q' < p → z.2.1 20 q' = m.1 20 q') fun q => OX n ((ls F (LWf P w g n) (f + 1) p S r).foldl (st1 one) x) q.2 ∧ oj_sm SOx m q.2 ∧ CN P n b q.2 ∧ ∀ q', q' < p → q.2.1 20 q' = m.1 20 q') := fun m3 a1 a2 a3 => by
            obtain ⟨d1, d2⟩ := and_dec S hS2 s (by omega) es
            have hsS3 : oj_sm SOx m m3 := sm_trans hsS (sm_mono a1 fun a j q => Or.inl q)
            have := bc_sub S hS2 s (by omega) es
            rw [d1, nI_1]
            refine wp_bind (wp_mono (ih (p + 1) (S - 2 ^ s) K (upN r p s) xs m3 (by omega) (by omega) (by omega) (XK_go (hX hsS3) hK) a2 ((hsS3.2 18 4 (by unfold SOx XC; omega)).trans h4) ((hsS3.2 18 6 (by unfold SOx XC; omega)).trans h6) (fun q hq => (hsS3.2 19 q (by unfold SOx XC; omega)).trans (h19 q hq)) (fun q hq => ⟨(a1.2 20 q (by unfold XC; omega)).trans (e20 q hq).1, (e20 q hq).2⟩) a3 ⟨(a1.2 18 5 (by unfold XC; omega)).trans hO2.1, fun h q hq => (a1.2 21 q (by unfold XC; omega)).trans (hO2.2 h q hq)⟩ hxb hone0 (fun ho => by have := (hsp ho).1; rw [hG] at this; exact this)) fun q hq => ?_)
            obtain ⟨q1, q2, q3, q4⟩ := hq
            rw [nI_1]
            refine wp_inl ⟨rfl, ?_, sm_trans hsS3 q2, q3, fun q' hq' => ?_⟩
            · rw [flat_succ, List.foldl_append, hxs, hG]
              exact q1
            · simp only
              rw [q4 q' (by omega), a1.2 20 q' (by unfold XC; omega)]
              exact e20o q' hq'
          have chk : 1 ≤ p → (2 ≤ p ∨ g = 0) → oj_wp ((f_X3_isLawfulBefore_B22 (nI p) m2).bind fun q2 => if q2.1 = 0 then some (Sum.inl (nI s + 1, q2.2) : (Int32 × ej_M) ⊕ (Unit × ej_M)) else (g_X3_fill (f + K + 1) (nI p + 1) (nI S &&& (((1 : Int32) <<< (nI s &&& 31)) ^^^ (-1))) q2.2).bind fun q3 => some (Sum.inl (nI s + 1, q3.2))) (oj_k (fun z => z.1 = nI (s + 1) ∧ OX n (((List.range (s + 1)).flatMap (lsG F (LWf P w g n) f p S r)).foldl (st1 one) x) z.2 ∧ oj_sm SOx m z.2 ∧ CN P n b z.2 ∧ ∀ q', q' < p → z.2.1 20 q' = m.1 20 q') fun q => OX n ((ls F (LWf P w g n) (f + 1) p S r).foldl (st1 one) x) q.2 ∧ oj_sm SOx m q.2 ∧ CN P n b q.2 ∧ ∀ q', q' < p → q.2.1 20 q' = m.1 20 q') := fun hp1 hp2 => by
            unfold f_X3_isLawfulBefore_B22
            rw [hsS.2 18 4 (by unfold SOx XC; omega), h4, nI_m1 hp1]
            refine wp_bind (wp_bind (wp_mono (xk_lo (ρ := upN r p s) (p := p - 1) hK2 hC2 hb (by omega) ar_20 (by omega) (by omega) (hp2.imp (fun h => by omega) id) (fun q hq => e20 q (by omega))) fun t ht => ?_))
            obtain ⟨t1, t2, t3⟩ := ht
            rw [t1]
            by_cases hl : lw P w g (upN r p s) n (p - 1) = true
            · rw [if_pos hl, rz_1]
              refine wp_some ?_
              rw [if_neg i10]
              refine good t.2 t2 t3 fun q hq hq2 => ?_
              by_cases e : q = p - 1
              · rw [e]; exact hl
              · rw [lw_loc (ρ' := r) (by omega) hq2 (fun q' hq' => by unfold upN; rw [if_neg (by omega)])]
                exact hch q (by omega) hq2
            · rw [if_neg hl, rz_0]
              refine wp_some ?_
              rw [if_pos rfl]
              have hsS3 : oj_sm SOx m t.2 := sm_trans hsS (sm_mono t2 fun a j q => Or.inl q)
              refine next t.2 ?_ ⟨(t2.2 18 5 (by unfold XC; omega)).trans hO2.1, fun h q hq => (t2.2 21 q (by unfold XC; omega)).trans (hO2.2 h q hq)⟩ hsS3 t3 (fun q' hq' => (t2.2 20 q' (by unfold XC; omega)).trans (e20o q' hq'))
              rw [hG]
              refine List.eq_nil_iff_forall_not_mem.mpr fun r' hr' => ?_
              obtain ⟨b1, b2⟩ := ls_mem _ _ _ _ _ hr'
              refine hl ?_
              rw [← lw_loc (ρ := r') (ρ' := upN r p s) (by omega) (hp2.imp (fun h => by omega) id) (fun q' hq' => b1 q' (by omega))]
              unfold LWf lwA at b2
              exact (of_decide_eq_true (p := ∀ p, p < n → lw P w g r' n p = true) b2) (p - 1) (by omega)
          have chk0 : (p = 0 ∨ (p = 1 ∧ g = 1)) → oj_wp ((some ((1 : Int32), m2)).bind fun q2 => if q2.1 = 0 then some (Sum.inl (nI s + 1, q2.2) : (Int32 × ej_M) ⊕ (Unit × ej_M)) else (g_X3_fill (f + K + 1) (nI p + 1) (nI S &&& (((1 : Int32) <<< (nI s &&& 31)) ^^^ (-1))) q2.2).bind fun q3 => some (Sum.inl (nI s + 1, q3.2))) (oj_k (fun z => z.1 = nI (s + 1) ∧ OX n (((List.range (s + 1)).flatMap (lsG F (LWf P w g n) f p S r)).foldl (st1 one) x) z.2 ∧ oj_sm SOx m z.2 ∧ CN P n b z.2 ∧ ∀ q', q' < p → z.2.1 20 q' = m.1 20 q') fun q => OX n ((ls F (LWf P w g n) (f + 1) p S r).foldl (st1 one) x) q.2 ∧ oj_sm SOx m q.2 ∧ CN P n b q.2 ∧ ∀ q', q' < p → q.2.1 20 q' = m.1 20 q') := fun hp => by
            rw [o_bs, if_neg i10]
            refine good m2 sm_refl hC2 fun q hq hq2 => ?_
            exfalso
            rcases hp with hp | ⟨hp, hg1⟩
            · omega
            · rcases hq2 with hq2 | hq2
              · omega
              · rw [hg1] at hq2; exact absurd hq2 (by decide)
          unfold f_X3_isLawfulBefore
          simp only
          by_cases e0 : p = 0
          · rw [if_pos (show nI p = 0 by rw [e0]; rfl)]
            exact chk0 (Or.inl e0)
          rw [if_neg (show ¬ nI p = 0 from fun q => e0 ((nI_eq0 (by omega)).mp q))]
          by_cases e1 : p = 1
          · rw [if_pos (show nI p = 1 by rw [e1]; rfl), hK2.2.1]
            by_cases eg : g = 1
            · rw [if_pos eg]
              exact chk0 (Or.inr ⟨e1, eg⟩)
            · rw [if_neg eg]
              exact chk (by omega) (Or.inr (hg.resolve_right eg))
          · rw [if_neg (show ¬ nI p = 1 from fun q => e1 (nI_inj (b := 1) (by omega) (by decide) q))]
            exact chk (by omega) (Or.inl (by omega))
        simp only
        by_cases f1 : fv p = -1
        · rw [if_pos f1]
          exact hgo ((hF p s (by omega) hs).mpr (Or.inl f1))
        · rw [if_neg f1, p_at1 ar_19 (by omega), o_bs, i2.2 19 p (by unfold SOx XC; omega), h19 p (by omega)]
          simp only
          by_cases f2 : fv p = nI s
          · rw [if_pos f2]
            exact hgo ((hF p s (by omega) hs).mpr (Or.inr f2))
          · rw [if_neg f2]
            refine next m1 ?_ i1 i2 i3 i4
            have hFf : F p s = false := by
              cases h : F p s with
              | false => rfl
              | true => rcases (hF p s (by omega) hs).mp h with q | q
                        · exact absurd q f1
                        · exact absurd q f2
            unfold lsG
            rw [hFf, Bool.and_false]
            rfl
      · rw [if_pos ((sb_0 (by omega) (by omega)).mpr es)]
        refine next m1 ?_ i1 i2 i3 i4
        unfold lsG
        have esf : sb S s = false := by simpa using es
        rw [esf, Bool.false_and]
        rfl
    · obtain ⟨a, m1⟩ := z
      obtain ⟨rfl, i1, i2, i3, i4⟩ := hI
      simp only at i1 i2 i3 i4 ⊢
      unfold f_X3_fill_L15b
      rw [if_pos (show (8 : Int32) ≤ nI 8 from Int32.le_refl _)]
      exact wp_inr ⟨i1, i2, i3, i4⟩
