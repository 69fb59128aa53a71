/-! rows in thought: maySell, ways -/
def LWf (P : Option (List (List Int32 × List Int32))) (w : Nat → Int32) (g : Int32) (n : Nat) (ρ : Nat → Nat) : Bool := lwA (lw P w g ρ n) n
theorem LWf_congr {P : Option (List (List Int32 × List Int32))} {w : Nat → Int32} {g : Int32} {n : Nat} {ρ ρ' : Nat → Nat} (h : ∀ q, q < n → ρ q = ρ' q) : LWf P w g n ρ = LWf P w g n ρ' := lwA_congr fun p hp => lw_congr hp fun q hq => ⟨h q hq, by rw [h q hq]⟩
def XK (P : Option (List (List Int32 × List Int32))) (w : Nat → Int32) (g : Int32) (m : ej_M) : Prop := LX P m ∧ m.1 6 5 = g ∧ ∀ i, i < 8 → m.1 7 i = w i
theorem XK_go {P : Option (List (List Int32 × List Int32))} {w : Nat → Int32} {g : Int32} {m m' : ej_M} (hs : oj_sm SX m m') (h : XK P w g m) : XK P w g m' :=
  ⟨LX_congr (hs.2 1 6 (by unfold SX; omega)) (fun j _ => hs.2 4 j (by unfold SX; omega)) h.1, (hs.2 6 5 (by unfold SX; omega)).trans h.2.1, fun i hi => (hs.2 7 i (by unfold SX; omega)).trans (h.2.2 i hi)⟩
def MK (P : Option (List (List Int32 × List Int32))) (w : Nat → Int32) (g : Int32) (N : Nat) (m : ej_M) : Prop := LM P m ∧ m.1 41 5 = g ∧ ∀ i, i < N → m.1 42 i = w i
theorem MK_go {P : Option (List (List Int32 × List Int32))} {w : Nat → Int32} {g : Int32} {N : Nat} {m m' : ej_M} (hN : N ≤ 8) (hs : oj_sm SM m m') (h : MK P w g N m) : MK P w g N m' := by
  have f : ∀ a, (a = 49 ∨ a = 50 ∨ a = 51 ∨ a = 52 ∨ a = 53) → m'.1 a = m.1 a := fun a ha => funext fun j => hs.2 a j (by unfold SM; omega)
  exact ⟨LM_congr (hs.2 41 27 (by unfold SM; omega)) (f 51 (by omega)) (f 49 (by omega)) (f 50 (by omega)) (f 52 (by omega)) (f 53 (by omega)) h.1, (hs.2 41 5 (by unfold SM; omega)).trans h.2.1, fun i hi => (hs.2 42 i (by unfold SM; omega)).trans (h.2.2 i hi)⟩
theorem IV_XK {L : Nat} {xs : Nat → Int32} {n k : Nat} {ρ : Nat → Nat} {P : Option (List (List Int32 × List Int32))} {nb : Nat} {m : ej_M} (h : IV L xs n k ρ P nb m) : XK P (m.1 7) (m.1 6 5) m := by
  obtain ⟨⟨h1, h2, h3, h4, h5, h6, h7, h8, h9, h10, h11, h12, h13, h14, h15⟩, _⟩ := h
  exact ⟨h14, rfl, fun _ _ => rfl⟩
theorem IV_MK {L : Nat} {xs : Nat → Int32} {n k : Nat} {ρ : Nat → Nat} {P : Option (List (List Int32 × List Int32))} {nb : Nat} {m m' : ej_M} (h : IV L xs n k ρ P nb m') (hs : oj_sm SX m m') : MK P (m.1 7) (m.1 6 5) n m' := by
  obtain ⟨⟨h1, h2, h3, h4, h5, h6, h7, h8, h9, h10, h11, h12, h13, h14, h15⟩, _⟩ := h
  exact ⟨h15, by rw [h10, hs.2 6 5 (by unfold SX; omega)], fun i hi => by rw [(h7 i hi).1, hs.2 7 i (by unfold SX; omega)]⟩
theorem CN_fr {P : Option (List (List Int32 × List Int32))} {n b : Nat} {S : Nat → Nat → Prop} {m m' : ej_M} (hs : oj_sm S m m') (h : CN P n b m) (h1 : ∀ i, ¬ S 10 i) (h2 : ¬ S 6 14) (h3 : ¬ S 6 15) (h4 : ∀ i, i < 8 → ¬ S 7 i) : CN P n b m' :=
  CN_congr h (fun i _ => hs.2 10 i (h1 i)) (hs.2 6 14 h2) (hs.2 6 15 h3) (fun i hi => hs.2 7 i (h4 i hi))
/-- one scratch row of the class written -/
theorem CN_row {P : Option (List (List Int32 × List Int32))} {n b a : Nat} {f : Nat → Int32} {m : ej_M} (h : CN P n b m) (ha : a ≠ 6 ∧ a ≠ 7 ∧ a ≠ 10) : CN P n b (oj_row m a f) :=
  CN_congr h (fun i _ => by rw [oj_row_n (Ne.symm ha.2.2)]) (by rw [oj_row_n (Ne.symm ha.1)]) (by rw [oj_row_n (Ne.symm ha.1)]) (fun i _ => by rw [oj_row_n (Ne.symm ha.2.1)])
theorem sm_a {S : Nat → Nat → Prop} {m : ej_M} {a : Nat} {f : Nat → Int32} (h : ∀ j, S a j) : oj_sm S m (oj_row m a f) := sm_row fun j hj => absurd (h j) hj
theorem xk_lw {P : Option (List (List Int32 × List Int32))} {w : Nat → Int32} {g : Int32} {n p : Nat} {ρ : Nat → Nat} {m : ej_M} (hK : XK P w g m) (hr : ∀ q, q < n → ρ q < 8) (hp : p < n) : lw P (m.1 7) (m.1 6 5) ρ n p = lw P w g ρ n p := by
  rw [hK.2.1]
  exact lw_congr hp fun q hq => ⟨rfl, hK.2.2 _ (hr q hq)⟩
theorem xk_at {P : Option (List (List Int32 × List Int32))} {w : Nat → Int32} {g : Int32} {o n p b N : Nat} {ρ : Nat → Nat} {m : ej_M} (hK : XK P w g m) (hC : CN P n b m) (hb : b < 2 ^ 28) (hn : n < 10) (ho : oj_ar o N) (hN : n ≤ N) (hr : ∀ q, q < n → m.1 o q = nI (ρ q) ∧ ρ q < 8) (hp : p < n) :
    oj_wp (f_X4_isLawfulAt o (nI n) (nI p) m) fun q => q.1 = (if lw P w g ρ n p then 1 else 0) ∧ oj_sm SX m q.2 ∧ CN P n b q.2 := by
  have hX : XR P o n ρ b m := ⟨hK.1, hC, hb, hn, ⟨N, ho, hN⟩, fun q hq => ⟨(hr q hq).1, by have := (hr q hq).2; omega⟩⟩
  refine wp_mono (x_at hX hp) fun q hq => ⟨?_, sm_XC hq.2.1, hq.2.2⟩
  rw [hq.1, xk_lw hK (fun q hq => (hr q hq).2) hp]
theorem xk_all {P : Option (List (List Int32 × List Int32))} {w : Nat → Int32} {g : Int32} {o n b N : Nat} {ρ : Nat → Nat} {m : ej_M} (hK : XK P w g m) (hC : CN P n b m) (hb : b < 2 ^ 28) (hn : n < 10) (ho : oj_ar o N) (hN : n ≤ N) (hr : ∀ q, q < n → m.1 o q = nI (ρ q) ∧ ρ q < 8) (ho2 : o ≠ 5 ∧ o ≠ 6 ∧ o ≠ 10) :
    oj_wp (f_X4_isLawful o (nI n) m) fun q => q.1 = (if LWf P w g n ρ then 1 else 0) ∧ oj_sm SX m q.2 ∧ CN P n b q.2 := by
  have hX : XR P o n ρ b m := ⟨hK.1, hC, hb, hn, ⟨N, ho, hN⟩, fun q hq => ⟨(hr q hq).1, by have := (hr q hq).2; omega⟩⟩
  refine wp_mono (x_all hX ho2) fun q hq => ⟨?_, sm_XC hq.2.1, hq.2.2⟩
  rw [hq.1]
  unfold LWf
  rw [lwA_congr fun p hp => xk_lw hK (fun q hq => (hr q hq).2) hp]
theorem mk_lw {P : Option (List (List Int32 × List Int32))} {w : Nat → Int32} {g : Int32} {n p N : Nat} {ρ : Nat → Nat} {m : ej_M} (hK : MK P w g N m) (hr : ∀ q, q < n → ρ q < N) (hp : p < n) : lw P (m.1 42) (m.1 41 5) ρ n p = lw P w g ρ n p := by
  rw [hK.2.1]
  exact lw_congr hp fun q hq => ⟨rfl, hK.2.2 _ (hr q hq)⟩
theorem mk_at {P : Option (List (List Int32 × List Int32))} {w : Nat → Int32} {g : Int32} {n p N : Nat} {ρ : Nat → Nat} {m : ej_M} (hK : MK P w g N m) (hN : N ≤ 8) (hn : n < 10) (h29 : m.1 41 29 = nI n) (hr : ∀ q, q < n → m.1 56 q = nI (ρ q) ∧ ρ q < N) (hp : p < n) :
    oj_wp (f_X11_isLawfulAt (nI p) m) fun q => q.1 = (if lw P w g ρ n p then 1 else 0) ∧ oj_sm MC m q.2 := by
  have hX : MR P n ρ m := ⟨hK.1, hn, h29, fun q hq => ⟨(hr q hq).1, by have := (hr q hq).2; omega⟩⟩
  refine wp_mono (m_at hX hp) fun q hq => ⟨?_, hq.2⟩
  rw [hq.1, mk_lw hK (fun q hq => (hr q hq).2) hp]
theorem mk_all {P : Option (List (List Int32 × List Int32))} {w : Nat → Int32} {g : Int32} {n N : Nat} {ρ : Nat → Nat} {m : ej_M} (hK : MK P w g N m) (hN : N ≤ 8) (hn : n < 10) (h29 : m.1 41 29 = nI n) (hr : ∀ q, q < n → m.1 56 q = nI (ρ q) ∧ ρ q < N) :
    oj_wp (f_X11_isLawful m) fun q => q.1 = (if LWf P w g n ρ then 1 else 0) ∧ oj_sm MC m q.2 := by
  have hX : MR P n ρ m := ⟨hK.1, hn, h29, fun q hq => ⟨(hr q hq).1, by have := (hr q hq).2; omega⟩⟩
  refine wp_mono (m_all hX) fun q hq => ⟨?_, hq.2⟩
  rw [hq.1]
  unfold LWf
  rw [lwA_congr fun p hp => mk_lw hK (fun q hq => (hr q hq).2) hp]
theorem mk_see {P : Option (List (List Int32 × List Int32))} {w : Nat → Int32} {g : Int32} {k N : Nat} {ρ : Nat → Nat} {m : ej_M} (hK : MK P w g N m) (hm : m.1 41 4 = nI k) (hk : k ≤ 8) (hρ : ∀ q, q < k → m.1 43 q = nI (ρ q) ∧ ρ q < 8) : oj_wp (f_X11_see m) fun q => oj_sm SE m q.2 ∧ q.2.1 41 29 = nI k ∧ ∀ q', q' < k → q.2.1 56 q' = nI (ρ q') :=
  wp_mono (m_see hK.1 hm hk hρ) fun q hq => ⟨hq.1, hq.2.2.2.1, fun q' hq' => (hq.2.2.2.2 q' hq').1⟩
theorem x_begin {m : ej_M} {k : Nat} (hm : m.1 6 4 = nI k) (hk : k ≤ 8) : f_X8_beginAnew m = some ((), oj_row m 16 (o_cp k (m.1 8) (m.1 16))) := by
  unfold f_X8_beginAnew
  rw [hm, x_copy ar_8 ar_16 (by decide) hk (by omega) (by omega), o_bs]
-- what is kept of a row
def s_cn (kp : Nat → Bool) : Nat → Nat
  | 0 => 0
  | i + 1 => if kp i = true then s_cn kp i + 1 else s_cn kp i
def s_rw (kp : Nat → Bool) (ρ : Nat → Nat) : Nat → Nat → Nat
  | 0, _ => 0
  | i + 1, q => if kp i = true ∧ q = s_cn kp i then ρ i else s_rw kp ρ i q
theorem s_cn_s1 {kp : Nat → Bool} {i : Nat} (h : kp i = true) : s_cn kp (i + 1) = s_cn kp i + 1 := if_pos h
theorem s_cn_s0 {kp : Nat → Bool} {i : Nat} (h : ¬ kp i = true) : s_cn kp (i + 1) = s_cn kp i := if_neg h
theorem s_cn_le (kp : Nat → Bool) : ∀ i, s_cn kp i ≤ i := by
  intro i
  induction i with
  | zero => exact Nat.le_refl _
  | succ i ih => unfold s_cn; split <;> omega
theorem s_rw_lt {kp : Nat → Bool} {ρ : Nat → Nat} {N : Nat} : ∀ i, (∀ q, q < i → ρ q < N) → ∀ q, q < s_cn kp i → s_rw kp ρ i q < N := by
  intro i
  induction i with
  | zero => intro h q hq; exact absurd hq (Nat.not_lt_zero _)
  | succ i ih =>
    intro h q hq
    unfold s_rw
    unfold s_cn at hq
    by_cases e : kp i = true
    · rw [if_pos e] at hq
      by_cases e2 : q = s_cn kp i
      · rw [if_pos ⟨e, e2⟩]; exact h i (by omega)
      · rw [if_neg (fun z => e2 z.2)]; exact ih (fun q hq => h q (by omega)) q (by omega)
    · rw [if_neg e] at hq
      rw [if_neg (fun z => e z.1)]; exact ih (fun q hq => h q (by omega)) q hq
theorem m_without {m : ej_M} {k : Nat} {ρ : Nat → Nat} {v : Int32} {kp : Nat → Bool} (hm : m.1 41 4 = nI k) (hk : k ≤ 8) (hρ : ∀ q, q < k → m.1 43 q = nI (ρ q)) (hkp : ∀ q, q < k → (((v >>> (nI (ρ q) &&& 31)) &&& 1) = 1 ↔ kp q = false)) : oj_wp (f_X11_lookWithout v m) fun q => oj_sm SE m q.2 ∧ q.2.1 41 29 = nI (s_cn kp k) ∧ ∀ q', q' < s_cn kp k → q.2.1 56 q' = nI (s_rw kp ρ k q') := by
  unfold f_X11_lookWithout oj_pf f_X11_lookWithout_L7
  rw [o_bs]
  refine wp_loop (fun i (s : Int32 × ej_M) => s.1 = nI i ∧ oj_sm SE m s.2 ∧ s.2.1 41 29 = nI (s_cn kp i) ∧ ∀ q', q' < s_cn kp i → s.2.1 56 q' = nI (s_rw kp ρ i q')) k (by unfold oj_FU; omega) (fun i s hi hI => ?_) (fun s hI => ?_) (i0 := 0) (by omega) ⟨rfl, sm_w (Or.inl ⟨rfl, rfl⟩), w_same, fun q' hq' => absurd hq' (Nat.not_lt_zero _)⟩
  · obtain ⟨v', m'⟩ := s
    obtain ⟨rfl, i1, i2, i3⟩ := hI
    simp only at i1 i2 i3 ⊢
    have hle := s_cn_le kp i
    unfold f_X11_lookWithout_L7b
    rw [i1.2 41 4 (by unfold SE; omega), hm, if_neg (fun q => by have := (nI_leI (by omega) (by omega)).mp q; omega), oj_ar_ld ar_43 (by omega), o_bs, i1.2 43 i (by unfold SE; omega), hρ i hi]
    by_cases e : kp i = true
    · rw [if_neg (fun q => by rw [(hkp i hi).mp q] at e; cases e), o_bs, i2, oj_ar_st ar_56 (by omega), o_bs]
      unfold oj_pf
      rw [o_bs, oj_row_n (by decide), i2, nI_1]
      refine wp_inl ⟨rfl, sm_trans i1 (sm_trans (sm_upd (by unfold SE; omega)) (sm_w (Or.inl ⟨rfl, rfl⟩))), ?_, fun q' hq' => ?_⟩
      · simp only; rw [w_same, nI_1, s_cn_s1 e]
      · simp only
        rw [w_place (by decide), oj_row_s]
        unfold upd s_rw
        unfold s_cn at hq'
        rw [if_pos e] at hq'
        by_cases e2 : q' = s_cn kp i
        · rw [if_pos e2, if_pos ⟨e, e2⟩]
        · rw [if_neg e2, if_neg (fun z => e2 z.2)]; exact i3 q' (by omega)
    · have ef : kp i = false := by simpa using e
      rw [if_pos ((hkp i hi).mpr ef)]
      refine wp_inl ⟨nI_1 i, i1, ?_, fun q' hq' => ?_⟩
      · simp only; rw [s_cn_s0 e]; exact i2
      · simp only
        unfold s_cn at hq'
        rw [if_neg e] at hq'
        unfold s_rw
        rw [if_neg (fun z => e z.1)]; exact i3 q' hq'
  · obtain ⟨v', m'⟩ := s
    obtain ⟨rfl, i1, i2, i3⟩ := hI
    simp only at i1 i2 i3 ⊢
    unfold f_X11_lookWithout_L7b
    rw [i1.2 41 4 (by unfold SE; omega), hm, if_pos (Int32.le_refl _)]
    exact wp_inr ⟨i1, i2, i3⟩
theorem b_one : ∀ a, a < 8 → ∀ c, c < 8 → ((((1 : Int32) <<< (nI a &&& 31)) >>> (nI c &&& 31)) &&& 1 = 1 ↔ a = c) := by decide
theorem s_cn_one (i : Nat) : ∀ j, s_cn (fun q => decide (q ≠ i)) j = if j ≤ i then j else j - 1 := by
  intro j
  induction j with
  | zero => rfl
  | succ j ih =>
    unfold s_cn
    rw [ih]
    by_cases e : j = i
    · rw [if_neg (by simp [e]), if_pos (by omega), if_neg (by omega)]; omega
    · rw [if_pos (by simp [e])]
      by_cases e2 : j ≤ i
      · rw [if_pos e2, if_pos (by omega)]
      · rw [if_neg e2, if_neg (by omega)]; omega
theorem s_rw_one (i : Nat) (ρ : Nat → Nat) : ∀ j q, q < s_cn (fun q => decide (q ≠ i)) j → s_rw (fun q => decide (q ≠ i)) ρ j q = r_rm i ρ q := by
  intro j
  induction j with
  | zero => intro q hq; exact absurd hq (Nat.not_lt_zero _)
  | succ j ih =>
    intro q hq
    unfold s_rw
    rw [s_cn_one] at hq ⊢
    by_cases e : j = i
    · rw [if_neg (by simp [e])]
      exact ih q (by rw [s_cn_one, if_pos (by omega)]; rw [if_neg (by omega)] at hq; omega)
    · by_cases e2 : q = if j ≤ i then j else j - 1
      · rw [if_pos ⟨by simp [e], e2⟩]
        unfold r_rm
        by_cases e3 : j ≤ i
        · rw [if_pos e3] at e2; rw [if_neg (by omega), e2]
        · rw [if_neg e3] at e2; rw [if_pos (by omega), e2, show j - 1 + 1 = j by omega]
      · rw [if_neg (fun z => e2 z.2)]
        refine ih q ?_
        rw [s_cn_one]
        by_cases e3 : j ≤ i
        · rw [if_pos e3] at e2 ⊢; rw [if_pos (by omega)] at hq; omega
        · rw [if_neg e3] at e2 ⊢; rw [if_neg (by omega)] at hq; omega
def s_mb (f : Nat → Bool) (ρ : Nat → Nat) : Nat → Int32
  | 0 => 0
  | i + 1 => if f i = true then s_mb f ρ i ||| ((1 : Int32) <<< (nI (ρ i) &&& 31)) else s_mb f ρ i
theorem s_mb_1 {f : Nat → Bool} {ρ : Nat → Nat} {i : Nat} (h : f i = true) : s_mb f ρ (i + 1) = s_mb f ρ i ||| ((1 : Int32) <<< (nI (ρ i) &&& 31)) := if_pos h
theorem s_mb_0 {f : Nat → Bool} {ρ : Nat → Nat} {i : Nat} (h : ¬ f i = true) : s_mb f ρ (i + 1) = s_mb f ρ i := if_neg h
theorem op_maySell : OP f_X10_maySell f_X11_maySell := by
  refine OP_ask fun L xs n k ρ P nb b m hI hC hb => ?_
  obtain ⟨h1, h2, h3, h4, h5, h6, h7, h8, h9, h10, h11, h12, h13, h14, h15⟩ := id hI.1
  have hk8 : k ≤ 8 := by omega
  have hK := IV_XK hI
  have hX : oj_wp (f_X8_mayBeSold m) fun q => q.1 = s_mb (fun i => LWf P (m.1 7) (m.1 6 5) (k - 1) (r_rm i ρ)) ρ k ∧ oj_sm SX m q.2 ∧ CN P (k - 1) (b + 1) q.2 := by
    unfold f_X8_mayBeSold f_X8_mayBeSold_L12
    rw [h5]
    refine wp_loop (fun i (s : Int32 × Int32 × ej_M) => s.1 = s_mb (fun i => LWf P (m.1 7) (m.1 6 5) (k - 1) (r_rm i ρ)) ρ i ∧ s.2.1 = nI i ∧ oj_sm SX m s.2.2 ∧ CN P (k - 1) (b + 1) s.2.2) k (by unfold oj_FU; omega) (fun i s hi hJ => ?_) (fun s hJ => ?_) (i0 := 0) (by omega) ⟨rfl, rfl, sm_refl, CB_N hC _⟩
    · obtain ⟨v, v', m'⟩ := s
      obtain ⟨rfl, rfl, i1, i2⟩ := hJ
      simp only at i1 i2 ⊢
      unfold f_X8_mayBeSold_L12b
      rw [if_neg (fun q => by have := (nI_leI (by omega) (by omega)).mp q; omega), x_begin ((i1.2 6 4 (by unfold SX; omega)).trans h5) hk8, o_bs]
      simp only
      rw [x_remove ar_16 (by omega) (by omega) hi, o_bs]
      simp only
      rw [nI_m1 (by omega), oj_row_row, oj_row_s]
      have hs : oj_sm SX m' (oj_row m' 16 (o_rm k i (o_cp k (m'.1 8) (m'.1 16)))) := sm_a fun j => by unfold SX; omega
      refine wp_bind (wp_mono (xk_all (ρ := r_rm i ρ) (b := b + 1) (XK_go (sm_trans i1 hs) hK) (CN_row i2 (by decide)) (by unfold oST at hb; omega) (by omega) ar_16 (by omega) (fun q hq => ?_) (by decide)) fun q hq => ?_)
      · rw [oj_row_s]
        unfold o_rm o_cp r_rm
        by_cases e : i ≤ q
        · rw [if_pos ⟨e, by omega⟩, if_pos (by omega), if_pos e, i1.2 8 _ (by unfold SX; omega), (h8 (q + 1) (by omega)).1]
          exact ⟨rfl, by have := (h8 (q + 1) (by omega)).2.2; omega⟩
        · rw [if_neg (fun z => e z.1), if_pos (by omega), if_neg e, i1.2 8 _ (by unfold SX; omega), (h8 q (by omega)).1]
          exact ⟨rfl, by have := (h8 q (by omega)).2.2; omega⟩
      obtain ⟨q1, q2, q3⟩ := hq
      have hs2 : oj_sm SX m q.2 := sm_trans i1 (sm_trans hs q2)
      by_cases hl : LWf P (m.1 7) (m.1 6 5) (k - 1) (r_rm i ρ) = true
      · rw [q1, if_pos hl, if_neg i10, p_at1 ar_8 (by omega), o_bs, hs2.2 8 i (by unfold SX; omega), (h8 i hi).1]
        exact wp_inl ⟨(s_mb_1 (f := fun i => LWf P (m.1 7) (m.1 6 5) (k - 1) (r_rm i ρ)) hl).symm, nI_1 i, hs2, q3⟩
      · rw [q1, if_neg hl, if_pos rfl]
        exact wp_inl ⟨(s_mb_0 (f := fun i => LWf P (m.1 7) (m.1 6 5) (k - 1) (r_rm i ρ)) hl).symm, nI_1 i, hs2, q3⟩
    · obtain ⟨v, v', m'⟩ := s
      obtain ⟨rfl, rfl, i1, i2⟩ := hJ
      simp only at i1 i2 ⊢
      unfold f_X8_mayBeSold_L12b
      rw [if_pos (Int32.le_refl _)]
      exact wp_inr ⟨rfl, i1, i2⟩
  unfold f_X10_maySell
  refine wp_bind (wp_mono hX fun q hq => wp_some ⟨hq.2.1, CN_step hq.2.2, fun m' hI' hs => ?_⟩)
  simp only
  rw [hq.1]
  obtain ⟨g1, g2, g3, g4, g5, g6, g7, g8, g9, g10, g11, g12, g13, g14, g15⟩ := id hI'.1
  have hM := IV_MK hI' hs
  unfold f_X11_maySell f_X11_maySell_L4
  refine wp_loop (fun i (s : Int32 × Int32 × ej_M) => s.1 = s_mb (fun i => LWf P (m.1 7) (m.1 6 5) (k - 1) (r_rm i ρ)) ρ i ∧ s.2.1 = nI i ∧ oj_sm SM m' s.2.2) k (by unfold oj_FU; omega) (fun i s hi hJ => ?_) (fun s hJ => ?_) (i0 := 0) (by omega) ⟨rfl, rfl, sm_refl⟩
  · obtain ⟨v, v', m2⟩ := s
    obtain ⟨rfl, rfl, i1⟩ := hJ
    simp only at i1 ⊢
    have e43 : ∀ q, q < k → m2.1 43 q = nI (ρ q) := fun q hq => (i1.2 43 q (by unfold SM; omega)).trans (g8 q hq).2.1
    unfold f_X11_maySell_L4b
    rw [i1.2 41 4 (by unfold SM; omega), g6, if_neg (fun q => by have := (nI_leI (by omega) (by omega)).mp q; omega), oj_ar_ld ar_43 (by omega), o_bs, e43 i hi]
    have hlt : ∀ q, q < k → ρ q < 8 := fun q hq => by have := (g8 q hq).2.2; omega
    refine wp_bind (wp_mono (m_without (kp := fun q => decide (q ≠ i)) ((i1.2 41 4 (by unfold SM; omega)).trans g6) hk8 e43 (fun q hq => ?_)) fun r hr => ?_)
    · rw [b_one _ (hlt i hi) _ (hlt q hq)]
      constructor
      · intro e; simp [g9 i q hi hq e]
      · intro e
        have : q = i := by simpa using e
        rw [this]
    obtain ⟨r1, r2, r3⟩ := hr
    rw [s_cn_one, if_neg (by omega)] at r2
    have hs1 : oj_sm SM m' r.2 := sm_trans i1 (sm_SE r1)
    refine wp_bind (wp_mono (mk_all (ρ := r_rm i ρ) (MK_go (by omega) hs1 hM) (by omega) (by omega) r2 (fun q hq => ?_)) fun w hw => ?_)
    · have hq' : q < s_cn (fun q => decide (q ≠ i)) k := by rw [s_cn_one, if_neg (by omega)]; exact hq
      rw [r3 q hq', s_rw_one i ρ k q hq']
      refine ⟨rfl, ?_⟩
      unfold r_rm
      by_cases e : i ≤ q
      · rw [if_pos e]; exact (g8 _ (by omega)).2.2
      · rw [if_neg e]; exact (g8 _ (by omega)).2.2
    obtain ⟨w1, w2⟩ := hw
    have hs2 : oj_sm SM m' w.2 := sm_trans hs1 (sm_MC w2)
    by_cases hl : LWf P (m.1 7) (m.1 6 5) (k - 1) (r_rm i ρ) = true
    · rw [w1, if_pos hl, if_neg i10, oj_ar_ld ar_43 (by omega), o_bs, hs2.2 43 i (by unfold SM; omega), (g8 i hi).2.1]
      exact wp_inl ⟨(s_mb_1 (f := fun i => LWf P (m.1 7) (m.1 6 5) (k - 1) (r_rm i ρ)) hl).symm, nI_1 i, hs2⟩
    · rw [w1, if_neg hl, if_pos rfl]
      exact wp_inl ⟨(s_mb_0 (f := fun i => LWf P (m.1 7) (m.1 6 5) (k - 1) (r_rm i ρ)) hl).symm, nI_1 i, hs2⟩
  · obtain ⟨v, v', m2⟩ := s
    obtain ⟨rfl, rfl, i1⟩ := hJ
    simp only at i1 ⊢
    unfold f_X11_maySell_L4b
    rw [i1.2 41 4 (by unfold SM; omega), g6, if_pos (Int32.le_refl _)]
    exact wp_inr ⟨rfl, i1⟩
-- ways
def r_xc (i j : Nat) (ρ : Nat → Nat) (q : Nat) : Nat := if q = j then ρ i else if q = i then ρ j else ρ q
theorem xc_nI {i j k q : Nat} {f : Nat → Int32} {ρ : Nat → Nat} (hi : i < k) (hj : j < k) (h : ∀ q, q < k → f q = nI (ρ q)) (hq : q < k) : o_xc i j f q = nI (r_xc i j ρ q) := by
  unfold o_xc r_xc
  by_cases e : q = j
  · rw [if_pos e, if_pos e]; exact h i hi
  · rw [if_neg e, if_neg e]
    by_cases e2 : q = i
    · rw [if_pos e2, if_pos e2]; exact h j hj
    · rw [if_neg e2, if_neg e2]; exact h q hq
def o_wy (t : Int32) (i j : Nat) (f : Nat → Int32) : Nat → Int32 := if t = 0 then o_xc i j f else o_rv i j f
def r_wy (t : Int32) (i j : Nat) (ρ : Nat → Nat) : Nat → Nat := if t = 0 then r_xc i j ρ else r_rv i j ρ
theorem wy_nI {t : Int32} {i j k q : Nat} {f : Nat → Int32} {ρ : Nat → Nat} (hi : i < k) (hj : j < k) (h : ∀ q, q < k → f q = nI (ρ q)) (hq : q < k) : o_wy t i j f q = nI (r_wy t i j ρ q) := by
  unfold o_wy r_wy
  by_cases e : t = 0
  · rw [if_pos e, if_pos e]; exact xc_nI hi hj h hq
  · rw [if_neg e, if_neg e]; exact rv_nI hj h hq
theorem wy_lt {t : Int32} {i j k N q : Nat} {ρ : Nat → Nat} (hi : i < k) (hj : j < k) (h : ∀ q, q < k → ρ q < N) (hq : q < k) : r_wy t i j ρ q < N := by
  unfold r_wy r_xc r_rv
  by_cases e : t = 0
  · rw [if_pos e]
    split
    · exact h i hi
    · split
      · exact h j hj
      · exact h q hq
  · rw [if_neg e]
    split
    · exact h _ (by omega)
    · exact h q hq
def s_sm (c : Nat → Nat) : Nat → Nat
  | 0 => 0
  | i + 1 => s_sm c i + c i
theorem s_sm_le {c : Nat → Nat} {B : Nat} (h : ∀ i, c i ≤ B) : ∀ i, s_sm c i ≤ i * B := by
  intro i
  induction i with
  | zero => simp [s_sm]
  | succ i ih => unfold s_sm; have := h i; rw [Nat.succ_mul]; omega
theorem s_cn_0 {f : Nat → Bool} : ∀ j, (∀ q, q < j → f q = false) → s_cn f j = 0 := by
  intro j
  induction j with
  | zero => intro _; rfl
  | succ j ih => intro h; unfold s_cn; rw [if_neg (by rw [h j (by omega)]; decide)]; exact ih fun q hq => h q (by omega)
def w_f (P : Option (List (List Int32 × List Int32))) (w : Nat → Int32) (g : Int32) (k : Nat) (ρ : Nat → Nat) (t : Int32) (i j : Nat) : Bool := decide (i < j) && LWf P w g k (r_wy t i j ρ)
theorem x_wayIn {P : Option (List (List Int32 × List Int32))} {w : Nat → Int32} {g : Int32} {k b c i : Nat} {ρ : Nat → Nat} {t : Int32} {m : ej_M} (hk8 : k ≤ 8) (hK : XK P w g m) (h5 : m.1 6 4 = nI k) (h8 : ∀ q, q < k → m.1 8 q = nI (ρ q) ∧ ρ q < 8) (hb : b < 2 ^ 28) (hi : i < k) (hC : CN P k b m) :
    oj_wp (f_X8_lawfulWays_L25 t (nI k) (nI i) (nI c) (nI (i + 1)) m) (oj_k (fun s => s.1 = nI (c + s_cn (w_f P w g k ρ t i) k) ∧ s.2.1 = nI (i + 1) ∧ oj_sm SX m s.2.2 ∧ CN P k b s.2.2) fun _ => False) := by
  unfold f_X8_lawfulWays_L25
  refine wp_loop (fun j (s : Int32 × Int32 × ej_M) => s.1 = nI (c + s_cn (w_f P w g k ρ t i) j) ∧ s.2.1 = nI j ∧ i < j ∧ oj_sm SX m s.2.2 ∧ CN P k b s.2.2) k (by unfold oj_FU; omega) (fun j s hj hJ => ?_) (fun s hJ => ?_) (i0 := i + 1) (by omega) ⟨?_, rfl, by omega, sm_refl, hC⟩
  · obtain ⟨v, v', m'⟩ := s
    obtain ⟨rfl, rfl, hij, i1, i2⟩ := hJ
    simp only at i1 i2 ⊢
    unfold f_X8_lawfulWays_L25b
    rw [if_neg (fun q => by have := (nI_leI (by omega) (by omega)).mp q; omega), x_begin ((i1.2 6 4 (by unfold SX; omega)).trans h5) hk8, o_bs]
    simp only
    have hs : oj_sm SX m' (oj_row m' 16 (o_wy t i j (o_cp k (m'.1 8) (m'.1 16)))) := sm_a fun j => by unfold SX; omega
    have hgo : oj_wp (f_X8_lawfulWays_B64 t (nI (c + s_cn (w_f P w g k ρ t i) j)) (nI k) (nI i) (nI j) (oj_row m' 16 (o_wy t i j (o_cp k (m'.1 8) (m'.1 16))))) (oj_k (fun s => s.1 = nI (c + s_cn (w_f P w g k ρ t i) (j + 1)) ∧ s.2.1 = nI (j + 1) ∧ i < j + 1 ∧ oj_sm SX m s.2.2 ∧ CN P k b s.2.2) (oj_k (fun s => s.1 = nI (c + s_cn (w_f P w g k ρ t i) k) ∧ s.2.1 = nI (i + 1) ∧ oj_sm SX m s.2.2 ∧ CN P k b s.2.2) fun _ => False)) := by
      unfold f_X8_lawfulWays_B64
      refine wp_bind (wp_mono (xk_all (ρ := r_wy t i j ρ) (b := b) (XK_go (sm_trans i1 hs) hK) (CN_row i2 (by decide)) hb (by omega) ar_16 (by omega) (fun q hq => ?_) (by decide)) fun q hq => ?_)
      · rw [oj_row_s]
        refine ⟨wy_nI hi hj (fun q hq => ?_) hq, wy_lt hi hj (fun q hq => (h8 q hq).2) hq⟩
        unfold o_cp
        rw [if_pos hq, i1.2 8 q (by unfold SX; omega)]
        exact (h8 q hq).1
      obtain ⟨q1, q2, q3⟩ := hq
      have hs2 : oj_sm SX m q.2 := sm_trans i1 (sm_trans hs q2)
      by_cases hl : LWf P w g k (r_wy t i j ρ) = true
      · rw [q1, if_pos hl, if_neg i10, nI_1, nI_1]
        refine wp_inl ⟨?_, rfl, by omega, hs2, q3⟩
        simp only
        rw [s_cn_s1 (show w_f P w g k ρ t i j = true by unfold w_f; simp [hl, hij])]
        rfl
      · rw [q1, if_neg hl, if_pos rfl, nI_1]
        refine wp_inl ⟨?_, rfl, by omega, hs2, q3⟩
        simp only
        rw [s_cn_s0 (show ¬ w_f P w g k ρ t i j = true by unfold w_f; simp [hl])]
    by_cases ht : t = 0
    · rw [if_pos ht, x_exchange ar_16 (by omega) (by omega), o_bs, oj_row_row, oj_row_s]
      unfold o_wy at hgo
      rw [if_pos ht] at hgo
      exact hgo
    · rw [if_neg ht, x_reverse ar_16 (by decide) (by omega) (by omega), o_bs, oj_row_row, oj_row_s]
      unfold o_wy at hgo
      rw [if_neg ht] at hgo
      exact hgo
  · obtain ⟨v, v', m'⟩ := s
    obtain ⟨rfl, rfl, hij, i1, i2⟩ := hJ
    simp only at i1 i2 ⊢
    unfold f_X8_lawfulWays_L25b
    rw [if_pos (Int32.le_refl _), nI_1]
    exact wp_inr ⟨rfl, rfl, i1, i2⟩
  · simp only
    rw [s_cn_0 (i + 1) (fun q hq => by unfold w_f; rw [decide_eq_false (by omega)]; rfl)]
    rfl
theorem m_wayIn {P : Option (List (List Int32 × List Int32))} {w : Nat → Int32} {g : Int32} {k c i N : Nat} {ρ : Nat → Nat} {t : Int32} {m : ej_M} (hN : N ≤ 8) (hk8 : k ≤ 8) (hK : MK P w g N m) (h5 : m.1 41 4 = nI k) (h8 : ∀ q, q < k → m.1 43 q = nI (ρ q) ∧ ρ q < N) (hi : i < k) :
    oj_wp (f_X11_ways_L28 t (nI i) (nI c) (nI (i + 1)) m) (oj_k (fun s => s.1 = nI (c + s_cn (w_f P w g k ρ t i) k) ∧ s.2.1 = nI (i + 1) ∧ oj_sm SM m s.2.2) fun _ => False) := by
  unfold f_X11_ways_L28
  refine wp_loop (fun j (s : Int32 × Int32 × ej_M) => s.1 = nI (c + s_cn (w_f P w g k ρ t i) j) ∧ s.2.1 = nI j ∧ i < j ∧ oj_sm SM m s.2.2) k (by unfold oj_FU; omega) (fun j s hj hJ => ?_) (fun s hJ => ?_) (i0 := i + 1) (by omega) ⟨?_, rfl, by omega, sm_refl⟩
  · obtain ⟨v, v', m'⟩ := s
    obtain ⟨rfl, rfl, hij, i1⟩ := hJ
    simp only at i1 ⊢
    have e4 : m'.1 41 4 = nI k := (i1.2 41 4 (by unfold SM; omega)).trans h5
    unfold f_X11_ways_L28b
    rw [e4, if_neg (fun q => by have := (nI_leI (by omega) (by omega)).mp q; omega)]
    refine wp_bind (wp_mono (mk_see (ρ := ρ) (MK_go hN i1 hK) e4 hk8 (fun q hq => ⟨(i1.2 43 q (by unfold SM; omega)).trans (h8 q hq).1, by have := (h8 q hq).2; omega⟩)) fun r hr => ?_)
    obtain ⟨r1, r2, r3⟩ := hr
    have hs : oj_sm SM r.2 (oj_row r.2 56 (o_wy t i j (r.2.1 56))) := sm_a fun j => by unfold SM; omega
    have hs1 : oj_sm SM m (oj_row r.2 56 (o_wy t i j (r.2.1 56))) := sm_trans i1 (sm_trans (sm_SE r1) hs)
    have hgo : oj_wp (f_X11_ways_B62 t (nI (c + s_cn (w_f P w g k ρ t i) j)) (nI i) (nI j) (oj_row r.2 56 (o_wy t i j (r.2.1 56)))) (oj_k (fun s => s.1 = nI (c + s_cn (w_f P w g k ρ t i) (j + 1)) ∧ s.2.1 = nI (j + 1) ∧ i < j + 1 ∧ oj_sm SM m s.2.2) (oj_k (fun s => s.1 = nI (c + s_cn (w_f P w g k ρ t i) k) ∧ s.2.1 = nI (i + 1) ∧ oj_sm SM m s.2.2) fun _ => False)) := by
      unfold f_X11_ways_B62
      refine wp_bind (wp_mono (mk_all (n := k) (ρ := r_wy t i j ρ) (MK_go hN hs1 hK) hN (by omega) (by rw [oj_row_n (by decide)]; exact r2) (fun q hq => ?_)) fun q hq => ?_)
      · rw [oj_row_s]
        exact ⟨wy_nI hi hj r3 hq, wy_lt hi hj (fun q hq => (h8 q hq).2) hq⟩
      obtain ⟨q1, q2⟩ := hq
      have hs2 : oj_sm SM m q.2 := sm_trans hs1 (sm_MC q2)
      by_cases hl : LWf P w g k (r_wy t i j ρ) = true
      · rw [q1, if_pos hl, if_neg i10, nI_1, nI_1]
        refine wp_inl ⟨?_, rfl, by omega, hs2⟩
        simp only
        rw [s_cn_s1 (show w_f P w g k ρ t i j = true by unfold w_f; simp [hl, hij])]
        rfl
      · rw [q1, if_neg hl, if_pos rfl, nI_1]
        refine wp_inl ⟨?_, rfl, by omega, hs2⟩
        simp only
        rw [s_cn_s0 (show ¬ w_f P w g k ρ t i j = true by unfold w_f; simp [hl])]
    by_cases ht : t = 0
    · rw [if_pos ht, m_swap (by omega) (by omega), o_bs]
      unfold o_wy at hgo
      rw [if_pos ht] at hgo
      exact hgo
    · rw [if_neg ht, m_turnRow (by omega) (by omega), o_bs]
      unfold o_wy at hgo
      rw [if_neg ht] at hgo
      exact hgo
  · obtain ⟨v, v', m'⟩ := s
    obtain ⟨rfl, rfl, hij, i1⟩ := hJ
    simp only at i1 ⊢
    unfold f_X11_ways_L28b
    rw [i1.2 41 4 (by unfold SM; omega), h5, if_pos (Int32.le_refl _), nI_1]
    exact wp_inr ⟨rfl, rfl, i1⟩
  · simp only
    rw [s_cn_0 (i + 1) (fun q hq => by unfold w_f; rw [decide_eq_false (by omega)]; rfl)]
    rfl
theorem op_waysT {t : Int32} (ht : t = 0 ∨ t = 1) : OP (f_X10_ways t) (f_X11_ways t) := by
  refine OP_ask fun L xs n k ρ P nb b m hI hC hb => ?_
  obtain ⟨h1, h2, h3, h4, h5, h6, h7, h8, h9, h10, h11, h12, h13, h14, h15⟩ := id hI.1
  have hk8 : k ≤ 8 := by omega
  have hK := IV_XK hI
  have hX : oj_wp (f_X8_lawfulWays t m) fun q => q.1 = nI (s_sm (fun i => s_cn (w_f P (m.1 7) (m.1 6 5) k ρ t i) k) k) ∧ oj_sm SX m q.2 ∧ CN P k (b + 1) q.2 := by
    unfold f_X8_lawfulWays f_X8_lawfulWays_L13
    rw [h5]
    refine wp_loop (fun i (s : Int32 × Int32 × ej_M) => s.1 = nI (s_sm (fun i => s_cn (w_f P (m.1 7) (m.1 6 5) k ρ t i) k) i) ∧ s.2.1 = nI i ∧ oj_sm SX m s.2.2 ∧ CN P k (b + 1) s.2.2) k (by unfold oj_FU; omega) (fun i s hi hJ => ?_) (fun s hJ => ?_) (i0 := 0) (by omega) ⟨rfl, rfl, sm_refl, CB_N hC _⟩
    · obtain ⟨v, v', m'⟩ := s
      obtain ⟨rfl, rfl, i1, i2⟩ := hJ
      simp only at i1 i2 ⊢
      unfold f_X8_lawfulWays_L13b
      rw [if_neg (fun q => by have := (nI_leI (by omega) (by omega)).mp q; omega), nI_1]
      refine wp_mono (x_wayIn (ρ := ρ) (t := t) (b := b + 1) hk8 (XK_go i1 hK) ((i1.2 6 4 (by unfold SX; omega)).trans h5) (fun q hq => ⟨(i1.2 8 q (by unfold SX; omega)).trans (h8 q hq).1, by have := (h8 q hq).2.2; omega⟩) (by unfold oST at hb; omega) hi i2) fun x hx => ?_
      rcases x with s | e
      · obtain ⟨x1, x2, x3, x4⟩ := hx
        exact ⟨x1, x2, sm_trans i1 x3, x4⟩
      · exact absurd hx id
    · obtain ⟨v, v', m'⟩ := s
      obtain ⟨rfl, rfl, i1, i2⟩ := hJ
      simp only at i1 i2 ⊢
      unfold f_X8_lawfulWays_L13b
      rw [if_pos (Int32.le_refl _)]
      exact wp_inr ⟨rfl, i1, i2⟩
  have hB : f_X10_ways t m = (f_X8_lawfulWays t m).bind fun q1 => some (q1.1, q1.2) := by
    unfold f_X10_ways f_X10_ways_B9 f_X10_ways_B23
    rcases ht with rfl | rfl
    · rw [if_pos rfl, if_neg (show ¬ (0 : Int32) = 1 by decide)]
    · rw [if_neg i10, if_pos rfl, if_pos rfl]
  rw [hB]
  refine wp_bind (wp_mono hX fun q hq => wp_some ⟨hq.2.1, CN_step hq.2.2, fun m' hI' hs => ?_⟩)
  simp only
  rw [hq.1]
  obtain ⟨g1, g2, g3, g4, g5, g6, g7, g8, g9, g10, g11, g12, g13, g14, g15⟩ := id hI'.1
  have hM := IV_MK hI' hs
  unfold f_X11_ways
  rw [p_in1 (show (0 : Int32) ≤ t from by rcases ht with rfl | rfl <;> decide) (show t ≤ 1 from by rcases ht with rfl | rfl <;> decide), o_bs, if_neg i10]
  unfold f_X11_ways_L15
  refine wp_loop (fun i (s : Int32 × Int32 × ej_M) => s.1 = nI (s_sm (fun i => s_cn (w_f P (m.1 7) (m.1 6 5) k ρ t i) k) i) ∧ s.2.1 = nI i ∧ oj_sm SM m' s.2.2) k (by unfold oj_FU; omega) (fun i s hi hJ => ?_) (fun s hJ => ?_) (i0 := 0) (by omega) ⟨rfl, rfl, sm_refl⟩
  · obtain ⟨v, v', m2⟩ := s
    obtain ⟨rfl, rfl, i1⟩ := hJ
    simp only at i1 ⊢
    have e4 : m2.1 41 4 = nI k := (i1.2 41 4 (by unfold SM; omega)).trans g6
    unfold f_X11_ways_L15b
    rw [e4, if_neg (fun q => by have := (nI_leI (by omega) (by omega)).mp q; omega), nI_1]
    refine wp_mono (m_wayIn (ρ := ρ) (t := t) (N := n) h1 hk8 (MK_go h1 i1 hM) e4 (fun q hq => ⟨(i1.2 43 q (by unfold SM; omega)).trans (g8 q hq).2.1, (g8 q hq).2.2⟩) hi) fun x hx => ?_
    rcases x with s | e
    · obtain ⟨x1, x2, x3⟩ := hx
      exact ⟨x1, x2, sm_trans i1 x3⟩
    · exact absurd hx id
  · obtain ⟨v, v', m2⟩ := s
    obtain ⟨rfl, rfl, i1⟩ := hJ
    simp only at i1 ⊢
    unfold f_X11_ways_L15b
    rw [i1.2 41 4 (by unfold SM; omega), g6, if_pos (Int32.le_refl _)]
    exact wp_inr ⟨rfl, i1⟩
theorem op_ways (v : Int32) : OP (f_X10_ways v) (f_X11_ways v) := by
  by_cases h0 : v = 0
  · exact op_waysT (Or.inl h0)
  by_cases h1 : v = 1
  · exact op_waysT (Or.inr h1)
  refine OP_no (v := -1) (fun m => ?_) (fun m => ?_)
  · unfold f_X10_ways
    rw [if_neg h0, if_neg h1]
  · unfold f_X11_ways
    rw [p_in0, o_bs, if_pos rfl]
    rintro ⟨a, c⟩
    obtain ⟨j, hj, rfl⟩ := nI_of (Int32.not_lt.mpr a)
    have := (nI_leI (b := 1) hj (by decide)).mp c
    rcases (by omega : j = 0 ∨ j = 1) with rfl | rfl
    · exact h0 rfl
    · exact h1 rfl
