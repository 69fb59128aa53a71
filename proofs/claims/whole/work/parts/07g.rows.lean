/-! one place of a row judged: the reference; whole rows judged on both sides -/
theorem ar_2 : oj_ar 2 120 := ⟨⟨_, sh_2⟩, by decide⟩
theorem ar_3 : oj_ar 3 121 := ⟨⟨_, sh_3⟩, by decide⟩
theorem ar_8 : oj_ar 8 8 := ⟨⟨_, sh_8⟩, by decide⟩
theorem ar_9 : oj_ar 9 8 := ⟨⟨_, sh_9⟩, by decide⟩
theorem ar_12 : oj_ar 12 40 := ⟨⟨_, sh_12⟩, by decide⟩
theorem ar_13 : oj_ar 13 40 := ⟨⟨_, sh_13⟩, by decide⟩
theorem ar_14 : oj_ar 14 40 := ⟨⟨_, sh_14⟩, by decide⟩
theorem ar_16 : oj_ar 16 9 := ⟨⟨_, sh_16⟩, by decide⟩
theorem ar_17 : oj_ar 17 8 := ⟨⟨_, sh_17⟩, by decide⟩
theorem ar_19 : oj_ar 19 8 := ⟨⟨_, sh_19⟩, by decide⟩
theorem ar_20 : oj_ar 20 8 := ⟨⟨_, sh_20⟩, by decide⟩
theorem ar_21 : oj_ar 21 8 := ⟨⟨_, sh_21⟩, by decide⟩
theorem ar_23 : oj_ar 23 8 := ⟨⟨_, sh_23⟩, by decide⟩
theorem ar_24 : oj_ar 24 8 := ⟨⟨_, sh_24⟩, by decide⟩
theorem ar_26 : oj_ar 26 256 := ⟨⟨_, sh_26⟩, by decide⟩
theorem ar_27 : oj_ar 27 8 := ⟨⟨_, sh_27⟩, by decide⟩
theorem ar_29 : oj_ar 29 6 := ⟨⟨_, sh_29⟩, by decide⟩
theorem ar_30 : oj_ar 30 6 := ⟨⟨_, sh_30⟩, by decide⟩
theorem ar_31 : oj_ar 31 6 := ⟨⟨_, sh_31⟩, by decide⟩
theorem ar_32 : oj_ar 32 720 := ⟨⟨_, sh_32⟩, by decide⟩
theorem ar_33 : oj_ar 33 720 := ⟨⟨_, sh_33⟩, by decide⟩
theorem ar_35 : oj_ar 35 50 := ⟨⟨_, sh_35⟩, by decide⟩
theorem ar_36 : oj_ar 36 24 := ⟨⟨_, sh_36⟩, by decide⟩
theorem ar_38 : oj_ar 38 6 := ⟨⟨_, sh_38⟩, by decide⟩
theorem ar_39 : oj_ar 39 6 := ⟨⟨_, sh_39⟩, by decide⟩
theorem ar_42 : oj_ar 42 9 := ⟨⟨_, sh_42⟩, by decide⟩
theorem ar_43 : oj_ar 43 8 := ⟨⟨_, sh_43⟩, by decide⟩
theorem ar_44 : oj_ar 44 40 := ⟨⟨_, sh_44⟩, by decide⟩
theorem ar_45 : oj_ar 45 40 := ⟨⟨_, sh_45⟩, by decide⟩
theorem ar_46 : oj_ar 46 40 := ⟨⟨_, sh_46⟩, by decide⟩
theorem ar_47 : oj_ar 47 40 := ⟨⟨_, sh_47⟩, by decide⟩
theorem ar_48 : oj_art 1 48 120 := ⟨⟨_, sh_48⟩, by decide⟩
theorem ar_56 : oj_ar 56 9 := ⟨⟨_, sh_56⟩, by decide⟩
theorem ar_57 : oj_ar 57 9 := ⟨⟨_, sh_57⟩, by decide⟩
theorem ar_58 : oj_ar 58 8 := ⟨⟨_, sh_58⟩, by decide⟩
theorem ar_59 : oj_ar 59 256 := ⟨⟨_, sh_59⟩, by decide⟩
theorem ar_60 : oj_art 2 60 720 := ⟨⟨_, sh_60⟩, by decide⟩
theorem ar_61 : oj_art 2 61 720 := ⟨⟨_, sh_61⟩, by decide⟩
theorem ar_62 : oj_ar 62 8 := ⟨⟨_, sh_62⟩, by decide⟩
theorem ar_63 : oj_ar 63 8 := ⟨⟨_, sh_63⟩, by decide⟩
theorem ar_64 : oj_ar 64 50 := ⟨⟨_, sh_64⟩, by decide⟩
theorem ar_65 : oj_ar 65 24 := ⟨⟨_, sh_65⟩, by decide⟩
theorem ar_66 : oj_ar 66 6 := ⟨⟨_, sh_66⟩, by decide⟩
theorem ar_67 : oj_ar 67 6 := ⟨⟨_, sh_67⟩, by decide⟩
/-- the class may judge rows of n within this budget of stamps -/
def CN (P : Option (List (List Int32 × List Int32))) (n b : Nat) (m : ej_M) : Prop := ∃ t jf, CI P t jf m ∧ t ≤ b ∧ (jf = n ∨ t + 1 ≤ b)
def CB (P : Option (List (List Int32 × List Int32))) (b : Nat) (m : ej_M) : Prop := ∃ t jf, CI P t jf m ∧ t ≤ b
theorem CN_B {P : Option (List (List Int32 × List Int32))} {n b : Nat} {m : ej_M} (h : CN P n b m) : CB P b m := by
  obtain ⟨t, jf, a, b, c⟩ := h
  exact ⟨t, jf, a, b⟩
theorem CB_N {P : Option (List (List Int32 × List Int32))} {b : Nat} {m : ej_M} (h : CB P b m) (n : Nat) : CN P n (b + 1) m := by
  obtain ⟨t, jf, a, b⟩ := h
  exact ⟨t, jf, a, by omega, Or.inr (by omega)⟩
theorem CB_le {P : Option (List (List Int32 × List Int32))} {b b' : Nat} {m : ej_M} (h : CB P b m) (k : b ≤ b') : CB P b' m := by
  obtain ⟨t, jf, a, b⟩ := h
  exact ⟨t, jf, a, by omega⟩
theorem CN_le {P : Option (List (List Int32 × List Int32))} {n b b' : Nat} {m : ej_M} (h : CN P n b m) (k : b ≤ b') : CN P n b' m := by
  obtain ⟨t, jf, a, b, c⟩ := h
  exact ⟨t, jf, a, by omega, by omega⟩
theorem CN_congr {P : Option (List (List Int32 × List Int32))} {n b : Nat} {m m' : ej_M} (h : CN P n b m) (h10 : ∀ i, i < 5832 → m'.1 10 i = m.1 10 i) (h14 : m'.1 6 14 = m.1 6 14) (h15 : m'.1 6 15 = m.1 6 15) (h7 : ∀ i, i < 8 → m'.1 7 i = m.1 7 i) : CN P n b m' := by
  obtain ⟨t, jf, a, c⟩ := h
  exact ⟨t, jf, CI_congr a h10 h14 h15 h7, c⟩
theorem CB_congr {P : Option (List (List Int32 × List Int32))} {b : Nat} {m m' : ej_M} (h : CB P b m) (h10 : ∀ i, i < 5832 → m'.1 10 i = m.1 10 i) (h14 : m'.1 6 14 = m.1 6 14) (h15 : m'.1 6 15 = m.1 6 15) (h7 : ∀ i, i < 8 → m'.1 7 i = m.1 7 i) : CB P b m' := by
  obtain ⟨t, jf, a, c⟩ := h
  exact ⟨t, jf, CI_congr a h10 h14 h15 h7, c⟩
/-- what is read of a row by the class -/
def XR (P : Option (List (List Int32 × List Int32))) (o n : Nat) (ρ : Nat → Nat) (b : Nat) (m : ej_M) : Prop := LX P m ∧ CN P n b m ∧ b < 2 ^ 28 ∧ n < 10 ∧ (∃ N, oj_ar o N ∧ n ≤ N) ∧ ∀ q, q < n → m.1 o q = nI (ρ q) ∧ ρ q < 9
theorem x_at {P : Option (List (List Int32 × List Int32))} {o n b p : Nat} {ρ : Nat → Nat} {m : ej_M} (h : XR P o n ρ b m) (hp : p < n) :
    oj_wp (f_X4_isLawfulAt o (nI n) (nI p) m) (fun q => q.1 = (if lw P (m.1 7) (m.1 6 5) ρ n p then 1 else 0) ∧ oj_sm XC m q.2 ∧ CN P n b q.2) := by
  obtain ⟨h1, ⟨t, jf, c1, c2, c3⟩, h3, h4, ⟨N, h5, h6⟩, h7⟩ := h
  refine wp_mono (x_lwAt h1 c1 (by omega) h5 h6 h4 hp h7) fun q hq => ⟨hq.1, hq.2.1, ?_⟩
  obtain ⟨t', k1, k2, k3⟩ := hq.2.2
  refine ⟨t', n, k3, ?_, Or.inl rfl⟩
  by_cases hj : jf = n
  · rw [if_pos hj] at k2; omega
  · rw [if_neg hj] at k2; omega
theorem XC_out {a j : Nat} (h : a ≠ 5 ∧ a ≠ 6 ∧ a ≠ 10) : ¬ XC a j := by unfold XC; omega
theorem XR_go {P : Option (List (List Int32 × List Int32))} {o n b : Nat} {ρ : Nat → Nat} {m m' : ej_M} (h : XR P o n ρ b m) (ho : o ≠ 5 ∧ o ≠ 6 ∧ o ≠ 10) (hs : oj_sm XC m m') (hc : CN P n b m') : XR P o n ρ b m' := by
  obtain ⟨h1, h2, h3, h4, h5, h6⟩ := h
  exact ⟨LX_XC hs h1, hc, h3, h4, h5, fun q hq => ⟨(hs.2 o q (XC_out ho)).trans (h6 q hq).1, (h6 q hq).2⟩⟩
theorem XC_7 {m m' : ej_M} (h : oj_sm XC m m') : m'.1 7 = m.1 7 := funext fun j => h.2 7 j (XC_out (by decide))
theorem XC_65 {m m' : ej_M} (h : oj_sm XC m m') : m'.1 6 5 = m.1 6 5 := h.2 6 5 (by unfold XC; omega)
def lwA (f : Nat → Bool) (n : Nat) : Bool := decide (∀ p, p < n → f p = true)
theorem x_all {P : Option (List (List Int32 × List Int32))} {o n b : Nat} {ρ : Nat → Nat} {m : ej_M} (h : XR P o n ρ b m) (ho : o ≠ 5 ∧ o ≠ 6 ∧ o ≠ 10) :
    oj_wp (f_X4_isLawful o (nI n) m) (fun q => q.1 = (if lwA (lw P (m.1 7) (m.1 6 5) ρ n) n then 1 else 0) ∧ oj_sm XC m q.2 ∧ CN P n b q.2) := by
  unfold f_X4_isLawful f_X4_isLawful_L2
  have h9 : n < 10 := h.2.2.2.1
  refine wp_loop (fun i (s : Int32 × ej_M) => s.1 = nI i ∧ oj_sm XC m s.2 ∧ CN P n b s.2 ∧ ∀ p, p < i → lw P (m.1 7) (m.1 6 5) ρ n p = true) n (by unfold oj_FU; omega) (fun i s hi hI => ?_) (fun s hI => ?_) (i0 := 0) (by omega) ⟨rfl, sm_refl, h.2.1, fun p hp => by omega⟩
  · obtain ⟨v, m'⟩ := s
    obtain ⟨rfl, i1, i2, i3⟩ := hI
    simp only at i1 i2 ⊢
    unfold f_X4_isLawful_L2b
    rw [if_neg (fun q => by have := (nI_leI (by omega) (by omega)).mp q; omega)]
    refine wp_bind (wp_mono (x_at (XR_go h ho i1 i2) hi) fun q hq => ?_)
    obtain ⟨q1, q2, q3⟩ := hq
    rw [XC_7 i1, XC_65 i1] at q1
    by_cases hl : lw P (m.1 7) (m.1 6 5) ρ n i = true
    · rw [q1, if_pos hl, if_neg (by decide)]
      refine wp_inl ⟨nI_1 i, sm_trans i1 q2, q3, fun p hp => ?_⟩
      by_cases e : p = i
      · rw [e]; exact hl
      · exact i3 p (by omega)
    · rw [q1, if_neg hl, if_pos rfl]
      refine wp_inr ⟨?_, sm_trans i1 q2, q3⟩
      unfold lwA
      rw [if_neg (fun e => hl ((of_decide_eq_true (p := ∀ p, p < n → lw P (m.1 7) (m.1 6 5) ρ n p = true) e) i hi))]
  · obtain ⟨v, m'⟩ := s
    obtain ⟨rfl, i1, i2, i3⟩ := hI
    simp only at i1 i2 ⊢
    unfold f_X4_isLawful_L2b
    rw [if_pos (Int32.le_refl _)]
    refine wp_inr ⟨?_, i1, i2⟩
    unfold lwA
    rw [if_pos (decide_eq_true i3)]
/-- the first place that is not so, -2: every one is -/
def x_fst (v : Int32) (f : Nat → Bool) (n : Nat) : Prop := (∃ p, p < n ∧ f p = false ∧ (∀ q, q < p → f q = true) ∧ v = nI p) ∨ ((∀ q, q < n → f q = true) ∧ v = -2)
theorem fst_eq {v v' : Int32} {f : Nat → Bool} {n : Nat} (h : x_fst v f n) (h' : x_fst v' f n) : v = v' := by
  rcases h with ⟨p, a, b, c, rfl⟩ | ⟨a, rfl⟩
  · rcases h' with ⟨p', a', b', c', rfl⟩ | ⟨a', rfl⟩
    · have : p = p' := by
        rcases Nat.lt_trichotomy p p' with k | k | k
        · rw [c' p k] at b; cases b
        · exact k
        · rw [c p' k] at b'; cases b'
      rw [this]
    · rw [a' p a] at b; cases b
  · rcases h' with ⟨p', a', b', c', rfl⟩ | ⟨a', rfl⟩
    · rw [a p' a'] at b'; cases b'
    · rfl
theorem x_first {P : Option (List (List Int32 × List Int32))} {o n b : Nat} {ρ : Nat → Nat} {m : ej_M} (h : XR P o n ρ b m) (ho : o ≠ 5 ∧ o ≠ 6 ∧ o ≠ 10) :
    oj_wp (f_X4_firstUnlawful o (nI n) m) (fun q => x_fst q.1 (lw P (m.1 7) (m.1 6 5) ρ n) n ∧ oj_sm XC m q.2 ∧ CN P n b q.2) := by
  unfold f_X4_firstUnlawful f_X4_firstUnlawful_L2
  have h9 : n < 10 := h.2.2.2.1
  refine wp_loop (fun i (s : Int32 × ej_M) => s.1 = nI i ∧ oj_sm XC m s.2 ∧ CN P n b s.2 ∧ ∀ p, p < i → lw P (m.1 7) (m.1 6 5) ρ n p = true) n (by unfold oj_FU; omega) (fun i s hi hI => ?_) (fun s hI => ?_) (i0 := 0) (by omega) ⟨rfl, sm_refl, h.2.1, fun p hp => by omega⟩
  · obtain ⟨v, m'⟩ := s
    obtain ⟨rfl, i1, i2, i3⟩ := hI
    simp only at i1 i2 ⊢
    unfold f_X4_firstUnlawful_L2b
    rw [if_neg (fun q => by have := (nI_leI (by omega) (by omega)).mp q; omega)]
    refine wp_bind (wp_mono (x_at (XR_go h ho i1 i2) hi) fun q hq => ?_)
    obtain ⟨q1, q2, q3⟩ := hq
    rw [XC_7 i1, XC_65 i1] at q1
    by_cases hl : lw P (m.1 7) (m.1 6 5) ρ n i = true
    · rw [q1, if_pos hl, if_neg (by decide)]
      refine wp_inl ⟨nI_1 i, sm_trans i1 q2, q3, fun p hp => ?_⟩
      by_cases e : p = i
      · rw [e]; exact hl
      · exact i3 p (by omega)
    · rw [q1, if_neg hl, if_pos rfl]
      exact wp_inr ⟨Or.inl ⟨i, hi, by simpa using hl, i3, rfl⟩, sm_trans i1 q2, q3⟩
  · obtain ⟨v, m'⟩ := s
    obtain ⟨rfl, i1, i2, i3⟩ := hI
    simp only at i1 i2 ⊢
    unfold f_X4_firstUnlawful_L2b
    rw [if_pos (Int32.le_refl _)]
    exact wp_inr ⟨Or.inr ⟨i3, rfl⟩, i1, i2⟩
/-! the reference -/
def MC (a _j : Nat) : Prop := a = 54 ∨ a = 55
def MR (P : Option (List (List Int32 × List Int32))) (n : Nat) (ρ : Nat → Nat) (m : ej_M) : Prop := LM P m ∧ n < 10 ∧ m.1 41 29 = nI n ∧ ∀ q, q < n → m.1 56 q = nI (ρ q) ∧ ρ q < 9
theorem m_row {P : Option (List (List Int32 × List Int32))} {n q : Nat} {ρ : Nat → Nat} {m : ej_M} (h : MR P n ρ m) (hq : q < n) : oj_ld 0 m 56 (nI q) = some (nI (ρ q)) ∧ oj_ld 0 m 42 (nI (ρ q)) = some (m.1 42 (ρ q)) := by
  obtain ⟨h1, h2, h3, h4⟩ := h
  exact ⟨by rw [oj_ar_ld ar_56 (by omega), (h4 q hq).1], oj_ar_ld ar_42 (h4 q hq).2 m⟩
theorem lw_w_s {wt : Nat → Int32} {k : Nat} : lw_w wt (k + 1) = wt k := by unfold lw_w; rw [if_neg (by omega)]; rfl
theorem lw_c_s {ρ : Nat → Nat} {k : Nat} : lw_c ρ (k + 1) = ρ k + 1 := by unfold lw_c; rw [if_neg (by omega)]; rfl
theorem p_in1 {v lo hi : Int32} (h1 : lo ≤ v) (h2 : v ≤ hi) (m : ej_M) : f_X11_in v lo hi m = some (1, m) := by rw [p_in, if_pos ⟨h1, h2⟩]
theorem p_in0 {v lo hi : Int32} (h : ¬ (lo ≤ v ∧ v ≤ hi)) (m : ej_M) : f_X11_in v lo hi m = some (0, m) := by rw [p_in, if_neg h]
theorem nI_0le {a : Nat} (h : a < 2 ^ 31) : (0 : Int32) ≤ nI a := by rw [nI_lit0]; exact (nI_leI (by decide) h).mpr (by omega)
theorem m_mid {P : Option (List (List Int32 × List Int32))} {n p : Nat} {ρ : Nat → Nat} {m : ej_M} (h : MR P n ρ m) (hp : p < n) : f_X11_weightAt (nI p) m = some (m.1 42 (ρ p), m) := by
  obtain ⟨r1, r2⟩ := m_row h hp
  obtain ⟨h1, h2, h3, h4⟩ := h
  unfold f_X11_weightAt
  rw [p_in1 (nI_0le (by omega)) (by rw [h3, nI_m1 (by omega)]; exact (nI_leI (by omega) (by omega)).mpr (by omega))]
  simp only [Option.bind_some]
  rw [if_neg (by decide), r1]
  simp only [Option.bind_some]
  rw [r2]
  rfl
theorem m_left {P : Option (List (List Int32 × List Int32))} {n p : Nat} {ρ : Nat → Nat} {m : ej_M} (h : MR P n ρ m) (hp : p < n) : f_X11_weightAt (nI p - 1) m = some (lw_w (m.1 42) (lw_c ρ (pl_l (m.1 41 5) n p)), m) := by
  by_cases h0 : p = 0
  · subst h0
    obtain ⟨r1, r2⟩ := m_row h (q := n - 1) (by omega)
    obtain ⟨h1, h2, h3, h4⟩ := h
    unfold f_X11_weightAt pl_l
    rw [p_in0 (fun q => absurd q.1 (by decide))]
    simp only [Option.bind_some]
    rw [if_pos trivial, if_pos trivial]
    by_cases hg : m.1 41 5 = 0
    · rw [if_pos hg, if_pos hg]; rfl
    · rw [if_neg hg, if_neg hg, if_neg (by decide), h3, nI_m1 (by omega), r1]
      simp only [Option.bind_some]
      rw [r2]
      obtain ⟨k, rfl⟩ : ∃ k, n = k + 1 := ⟨n - 1, by omega⟩
      rw [lw_c_s, lw_w_s]
      rfl
  · rw [nI_m1 (by omega), m_mid h (p := p - 1) (by omega)]
    obtain ⟨k, rfl⟩ : ∃ k, p = k + 1 := ⟨p - 1, by omega⟩
    unfold pl_l
    rw [if_neg h0, lw_c_s, lw_w_s]
    rfl
theorem m_right {P : Option (List (List Int32 × List Int32))} {n p : Nat} {ρ : Nat → Nat} {m : ej_M} (h : MR P n ρ m) (hp : p < n) : f_X11_weightAt (nI p + 1) m = some (lw_w (m.1 42) (lw_c ρ (pl_r (m.1 41 5) n p)), m) := by
  rw [nI_1]
  by_cases hl : p + 1 < n
  · rw [m_mid h hl]
    unfold pl_r
    rw [if_pos hl, lw_c_s, lw_w_s]
  · obtain ⟨r1, r2⟩ := m_row h (q := 0) (by omega)
    obtain ⟨h1, h2, h3, h4⟩ := h
    unfold f_X11_weightAt pl_r
    rw [p_in0 (fun q => by rw [h3, nI_m1 (by omega)] at q; have := (nI_leI (by omega) (by omega)).mp q.2; omega)]
    simp only [Option.bind_some]
    rw [if_pos trivial, if_neg hl]
    by_cases hg : m.1 41 5 = 0
    · rw [if_pos hg, if_pos hg]; rfl
    · rw [if_neg hg, if_neg hg, if_pos (nI_0le (by omega)), nI_lit0, r1]
      simp only [Option.bind_some]
      rw [r2]
      rfl
theorem LM_congr {P : Option (List (List Int32 × List Int32))} {m m' : ej_M} (h27 : m'.1 41 27 = m.1 41 27) (h51 : m'.1 51 = m.1 51) (h49 : m'.1 49 = m.1 49) (h50 : m'.1 50 = m.1 50) (h52 : m'.1 52 = m.1 52) (h53 : m'.1 53 = m.1 53) (h : LM P m) : LM P m' := by
  cases P with
  | none => exact h27.trans h
  | some P =>
    obtain ⟨a1, a2, a3, a4, a5⟩ := h
    exact ⟨a1, a2, h27.trans a3, by rw [h51]; exact a4, LMl_congr h49 h50 h52 h53 _ _ _ a5⟩
theorem st54_0 (m : ej_M) (v : Int32) : oj_st 0 m 54 0 v = some (oj_row m 54 (upd (m.1 54) 0 v)) := oj_ar_st (k := 0) ar_54 (by decide) m v
theorem st54_1 (m : ej_M) (v : Int32) : oj_st 0 m 54 1 v = some (oj_row m 54 (upd (m.1 54) 1 v)) := oj_ar_st (k := 1) ar_54 (by decide) m v
theorem st54_2 (m : ej_M) (v : Int32) : oj_st 0 m 54 2 v = some (oj_row m 54 (upd (m.1 54) 2 v)) := oj_ar_st (k := 2) ar_54 (by decide) m v
theorem st54_3 (m : ej_M) (v : Int32) : oj_st 0 m 54 3 v = some (oj_row m 54 (upd (m.1 54) 3 v)) := oj_ar_st (k := 3) ar_54 (by decide) m v
theorem st54_4 (m : ej_M) (v : Int32) : oj_st 0 m 54 4 v = some (oj_row m 54 (upd (m.1 54) 4 v)) := oj_ar_st (k := 4) ar_54 (by decide) m v
theorem st54_5 (m : ej_M) (v : Int32) : oj_st 0 m 54 5 v = some (oj_row m 54 (upd (m.1 54) 5 v)) := oj_ar_st (k := 5) ar_54 (by decide) m v
theorem o_bs {α β : Type} (a : α) (f : α → Option β) : (some a).bind f = f a := by
  generalize h : (some a).bind f = x
  rw [← h]
  exact Option.bind_some a f
theorem m_at {P : Option (List (List Int32 × List Int32))} {n p : Nat} {ρ : Nat → Nat} {m : ej_M} (h : MR P n ρ m) (hp : p < n) :
    oj_wp (f_X11_isLawfulAt (nI p) m) (fun q => q.1 = (if lw P (m.1 42) (m.1 41 5) ρ n p then 1 else 0) ∧ oj_sm MC m q.2) := by
  unfold f_X11_isLawfulAt
  rw [m_mid h hp]
  simp only [o_bs]
  rw [m_left h hp]
  simp only [o_bs]
  rw [m_right h hp]
  simp only [o_bs]
  have hr := m_row h hp
  obtain ⟨h1, h2, h3, h4⟩ := h
  cases P with
  | none =>
    have h27 : m.1 41 27 = 0 := h1
    rw [if_pos h27]
    unfold lw tk_law
    simp only [decide_eq_true_eq]
    by_cases hlt : lw_w (m.1 42) (lw_c ρ (pl_l (m.1 41 5) n p)) + lw_w (m.1 42) (lw_c ρ (pl_r (m.1 41 5) n p)) < m.1 42 (ρ p)
    · rw [if_pos hlt]
      exact wp_some ⟨by simp [hlt], sm_refl⟩
    · rw [if_neg hlt]
      exact wp_some ⟨by simp [hlt], sm_refl⟩
  | some P =>
    have h27 : m.1 41 27 = 1 := h1.2.2.1
    rw [if_neg (by rw [h27]; decide)]
    rw [st54_0]
    simp only [o_bs]
    rw [st54_1]
    simp only [o_bs]
    rw [st54_2]
    simp only [o_bs]
    rw [st54_3]
    simp only [o_bs]
    rw [st54_4]
    simp only [o_bs, oj_row_row, oj_row_s]
    rw [oj_ar_ld ar_56 (by omega), oj_row_n (by decide), oj_row_n (by decide), h3, (h4 p hp).1]
    simp only [o_bs]
    rw [st54_5]
    simp only [o_bs, oj_row_row, oj_row_s]
    refine wp_bind (wp_mono (s_gives (P := P) (env := tk_env (m.1 42 (ρ p)) (lw_w (m.1 42) (lw_c ρ (pl_l (m.1 41 5) n p))) (lw_w (m.1 42) (lw_c ρ (pl_r (m.1 41 5) n p))) (nI p) (nI n) (nI (ρ p))) ?_ ?_) fun q hq => ?_)
    · exact LM_congr (by rw [oj_row_n (by decide)]) (by rw [oj_row_n (by decide)]) (by rw [oj_row_n (by decide)]) (by rw [oj_row_n (by decide)]) (by rw [oj_row_n (by decide)]) (by rw [oj_row_n (by decide)]) h1
    · intro j hj
      rw [oj_row_s]
      rcases (by omega : j = 0 ∨ j = 1 ∨ j = 2 ∨ j = 3 ∨ j = 4 ∨ j = 5) with rfl | rfl | rfl | rfl | rfl | rfl <;> simp [upd, tk_env]
    · obtain ⟨q1, g, q2⟩ := hq
      have hsm : oj_sm MC m q.2 := by
        rw [q2]
        exact sm_trans (sm_row fun j hj => absurd (Or.inl rfl) hj) (sm_row fun j hj => absurd (Or.inr rfl) hj)
      unfold lw tk_law
      simp only [decide_eq_true_eq]
      rw [← q1]
      by_cases hq0 : q.1 = 0
      · rw [if_pos hq0]
        exact wp_some ⟨by rw [if_neg (fun e => e hq0)], hsm⟩
      · rw [if_neg hq0]
        exact wp_some ⟨by rw [if_pos hq0], hsm⟩
