/-! the reference's value over all lines -/
def LMl (m : ej_M) : List (List Int32 × List Int32) → Nat → Nat → Prop
  | [], _, _ => True
  | (t, b) :: P, l, f => m.1 52 l = nI (f + t.length) ∧ m.1 53 l = nI (f + t.length + b.length) ∧ (∀ j, j < (t ++ b).length → m.1 49 (f + j) = mt_A ((t ++ b).getD j 0) ∧ (¬ (t ++ b).getD j 0 < -6 → m.1 50 (f + j) = mt_W ((t ++ b).getD j 0))) ∧ LMl m P (l + 1) (f + t.length + b.length)
def LM (P : Option (List (List Int32 × List Int32))) (m : ej_M) : Prop := match P with
  | none => m.1 41 27 = 0
  | some P => tk_wf P ∧ P ≠ [] ∧ m.1 41 27 = 1 ∧ m.1 51 0 = nI P.length ∧ LMl m P 0 0
theorem LMl_congr {m m' : ej_M} (h49 : m'.1 49 = m.1 49) (h50 : m'.1 50 = m.1 50) (h52 : m'.1 52 = m.1 52) (h53 : m'.1 53 = m.1 53) : ∀ (P : List (List Int32 × List Int32)) (l f : Nat), LMl m P l f → LMl m' P l f := by
  intro P
  induction P with
  | nil => intro l f h; trivial
  | cons q P ih =>
    intro l f h
    obtain ⟨t, b⟩ := q
    obtain ⟨a1, a2, a3, a4⟩ := h
    exact ⟨by rw [h52]; exact a1, by rw [h53]; exact a2, fun j hj => by rw [h49, h50]; exact a3 j hj, ih _ _ a4⟩
def s_gb (q : Int32 × Int32 × ej_M) : Option ((Int32 × Int32 × ej_M) ⊕ (Int32 × ej_M)) := f_X11_gives_L7b 0 q.1 q.2.1 q.2.2
theorem s_gbody {env : Nat → Int32} {f l : Nat} {t b : List Int32} {P : List (List Int32 × List Int32)} {m : ej_M} (hl : l < 61) (hE : f + t.length + b.length < 130) (hb : tk_dps 0 b = some 1) (hL : LMl m ((t, b) :: P) l f) (hf : ∀ j, j < 6 → m.1 54 j = env j) :
    oj_wp (f_X11_gives_B47 0 (nI l) m) (fun q => q.1 = tk_v env b ∧ ∃ g, q.2 = oj_row m 55 g) := by
  obtain ⟨a1, a2, a3, a4⟩ := hL
  unfold f_X11_gives_B47
  rw [oj_art_ld ar_52 (by omega), a1]
  simp only [Option.bind_some]
  rw [oj_art_ld ar_53 (by omega), a2]
  simp only [Option.bind_some]
  refine wp_bind (wp_mono (s_worked (env := env) (f := f + t.length) (ts := b) hE hb (fun j hj => ?_) hf) fun q hq => wp_some hq)
  have := a3 (t.length + j) (by simp; omega)
  rw [oj_getD_app2] at this
  rw [show f + t.length + j = f + (t.length + j) by omega]
  exact this
theorem s_glines {env : Nat → Int32} {N : Nat} (hN : N ≤ 61) : ∀ (P : List (List Int32 × List Int32)) {l f K : Nat} {m : ej_M}, (∀ q ∈ P, tk_wfl q) → l + P.length = N → f + (tk_flat P).length < 130 → m.1 51 0 = nI N → LMl m P l f → (∀ j, j < 6 → m.1 54 j = env j) → P.length < K →
    oj_wp (oj_loop s_gb K (nI f, nI l, m)) (fun q => q.1 = tk_lines env P ∧ ∃ g, q.2 = oj_row m 55 g) := by
  intro P
  induction P with
  | nil =>
    intro l f K m hw hl hfl hm hL hf hK
    obtain ⟨K, rfl⟩ : ∃ K', K = K' + 1 := ⟨K - 1, by omega⟩
    refine wp_loop1 ?_
    show oj_wp (f_X11_gives_L7b 0 (nI f) (nI l) m) _
    unfold f_X11_gives_L7b
    rw [show oj_ld 0 m 51 0 = some (m.1 51 0) from oj_ar_ld (k := 0) ar_51 (by decide) m, hm]
    simp only [Option.bind_some]
    rw [if_pos (by rw [Int32.mul_zero, Int32.zero_add, show N = l by simpa using hl.symm]; exact Int32.le_refl _)]
    exact wp_inr ⟨rfl, m.1 55, oj_row_id.symm⟩
  | cons q P ih =>
    intro l f K m hw hl hfl hm hL hf hK
    obtain ⟨t, b⟩ := q
    obtain ⟨hw1, hw2⟩ := hw (t, b) List.mem_cons_self
    simp only at hw1 hw2
    simp only [List.length_cons] at hl hK
    have hflat : (tk_flat ((t, b) :: P)).length = (tk_line (t, b)).length + (tk_flat P).length := by simp [tk_flat]
    have hline : t.length + b.length + 1 ≤ (tk_line (t, b)).length := by
      unfold tk_line
      by_cases h : t = [] <;> simp [h] <;> omega
    obtain ⟨K, rfl⟩ : ∃ K', K = K' + 1 := ⟨K - 1, by omega⟩
    refine wp_loop1 ?_
    show oj_wp (f_X11_gives_L7b 0 (nI f) (nI l) m) _
    unfold f_X11_gives_L7b
    rw [show oj_ld 0 m 51 0 = some (m.1 51 0) from oj_ar_ld (k := 0) ar_51 (by decide) m, hm]
    simp only [Option.bind_some]
    rw [if_neg (by rw [Int32.mul_zero, Int32.zero_add]; exact fun q => by have := (nI_leI (by omega) (by omega)).mp q; omega)]
    obtain ⟨a1, a2, a3, a4⟩ := id hL
    rw [oj_art_ld ar_52 (by omega), a1]
    simp only [Option.bind_some]
    by_cases ht : t = []
    · rw [if_pos (by rw [ht]; rfl)]
      refine wp_map (wp_mono (s_gbody (env := env) (by omega) (by omega) hw2 hL hf) fun q hq => ?_)
      refine ⟨?_, hq.2⟩
      rw [hq.1]
      simp [tk_lines, ht]
    · have hwt := hw1.resolve_left ht
      have htl : 0 < t.length := List.length_pos_iff.mpr ht
      rw [if_neg (fun q => by have := (nI_eq (by omega) (by omega)).mp q; omega)]
      refine wp_bind (wp_mono (s_worked (env := env) (f := f) (ts := t) (by omega) hwt (fun j hj => ?_) hf) fun q hq => ?_)
      · have := a3 j (by simp; omega)
        rw [oj_getD_app hj] at this
        exact this
      · obtain ⟨q1, g, q2⟩ := hq
        rw [q1, q2]
        have hf' : ∀ j, j < 6 → (oj_row m 55 g).1 54 j = env j := fun j hj => by rw [oj_row_n (by decide)]; exact hf j hj
        have hL' : LMl (oj_row m 55 g) ((t, b) :: P) l f := LMl_congr (oj_row_n (by decide)) (oj_row_n (by decide)) (oj_row_n (by decide)) (oj_row_n (by decide)) _ _ _ hL
        by_cases h0 : tk_v env t = 0
        · rw [if_pos h0, oj_art_ld ar_53 (by omega), hL'.2.1]
          simp only [Option.bind_some, nI_1]
          refine wp_inl ?_
          refine wp_mono (ih (fun q hq => hw q (List.mem_cons_of_mem _ hq)) (by omega) (by omega) (by rw [oj_row_n (by decide)]; exact hm) hL'.2.2.2 hf' (by omega)) fun q hq => ?_
          obtain ⟨q3, g2, q4⟩ := hq
          refine ⟨?_, g2, by rw [q4, oj_row_row]⟩
          rw [q3]
          simp only [tk_lines, if_neg ht, if_pos h0]
        · rw [if_neg h0]
          refine wp_map (wp_mono (s_gbody (env := env) (by omega) (by omega) hw2 hL' hf') fun q hq => ?_)
          obtain ⟨q3, g2, q4⟩ := hq
          refine ⟨?_, g2, by rw [q4, oj_row_row]⟩
          rw [q3]
          simp only [tk_lines, if_neg ht, if_neg h0]
theorem tk_flat_len (P : List (List Int32 × List Int32)) (h : ∀ q ∈ P, tk_wfl q) : 2 * P.length ≤ (tk_flat P).length := by
  induction P with
  | nil => simp [tk_flat]
  | cons q P ih =>
    have h1 := ih fun q hq => h q (List.mem_cons_of_mem _ hq)
    have h2 : 2 ≤ (tk_line q).length := by
      obtain ⟨t, b⟩ := q
      have hb := (h (t, b) List.mem_cons_self).2
      have : b ≠ [] := fun e => by rw [e] at hb; cases hb
      have : 0 < b.length := List.length_pos_iff.mpr this
      unfold tk_line
      simp
      omega
    have h3 : (tk_flat (q :: P)).length = (tk_line q).length + (tk_flat P).length := by simp [tk_flat]
    rw [h3, List.length_cons]
    omega
theorem s_gives {P : List (List Int32 × List Int32)} {env : Nat → Int32} {m : ej_M} (hL : LM (some P) m) (hf : ∀ j, j < 6 → m.1 54 j = env j) : oj_wp (f_X11_gives 0 m) (fun q => q.1 = tk_lines env P ∧ ∃ g, q.2 = oj_row m 55 g) := by
  obtain ⟨⟨hw, hlen⟩, hne, h27, h51, hl⟩ := hL
  have h2 := tk_flat_len P hw
  unfold f_X11_gives f_X11_gives_L7
  rw [Int32.mul_zero]
  exact s_glines (env := env) (N := P.length) (by omega) P (l := 0) (f := 0) (K := oj_FU) (m := m) hw (by omega) (by omega) h51 hl hf (by unfold oj_FU; omega)
