/-! the class's value over all lines -/
def s_vb (w l r k n s : Int32) (q : Int32 × Int32 × Int32 × ej_M) : Option ((Int32 × Int32 × Int32 × ej_M) ⊕ (Int32 × ej_M)) := f_X2_value_L29b w l r k n s q.1 q.2.1 q.2.2.1 q.2.2.2
theorem s_vals {w l r k n s v8 : Int32} {Q : Int32 × ej_M → Prop} {c K : Nat} (hc : c ≤ 121) : ∀ (ts : List Int32) {d e i : Nat} {m : ej_M}, tk_dps d ts = some e → d ≤ i → i + ts.length ≤ c → m.1 1 6 = nI c → (∀ j, j < ts.length → m.1 4 (i + j) = ts.getD j 0) →
    oj_wp (oj_loop (s_vb w l r k n s) K (nI e, v8, nI (i + ts.length), oj_row m 5 (tk_run (tk_env w l r k n s) (d, m.1 5) ts).2)) Q → oj_wp (oj_loop (s_vb w l r k n s) (ts.length + K) (nI d, v8, nI i, m)) Q := by
  intro ts
  induction ts with
  | nil =>
    intro d e i m h hd hi hm hts hk
    cases h
    rw [show ([] : List Int32).length + K = K by simp]
    have e1 : oj_row m 5 (tk_run (tk_env w l r k n s) (d, m.1 5) []).2 = m := oj_row_id
    rw [e1] at hk
    exact hk
  | cons t ts ih =>
    intro d e i m h hd hi hm hts hk
    unfold tk_dps at h
    obtain ⟨d', h1, h2⟩ := Option.bind_eq_some_iff.mp h
    simp only [List.length_cons] at hi hts hk ⊢
    rw [show ts.length + 1 + K = (ts.length + K) + 1 by omega]
    refine wp_loop1 ?_
    have hst := s_val1 (w := w) (l := l) (r := r) (k := k) (n := n) (s := s) (v8 := v8) (m := m) (i := i) (Or.inr ⟨c, by omega, by omega, hm⟩) (by omega) (by have := hts 0 (by omega); simpa using this) (show d < 121 by omega) h1
    show oj_wp (f_X2_value_L29b w l r k n s (nI d) v8 (nI i) m) _
    rw [hst]
    refine wp_inl (Q := Q) ?_
    have hd' : d' ≤ d + 1 := by
      have := tk_dps_le [t] (d := d) (e := d') (by unfold tk_dps; rw [h1]; rfl)
      simpa using this
    refine ih h2 (by omega) (by omega) ?_ ?_ ?_
    · rw [oj_row_n (by decide)]; exact hm
    · intro j hj
      rw [oj_row_n (by decide)]
      have := hts (j + 1) (by omega)
      rw [show i + 1 + j = i + (j + 1) by omega, this]
      simp
    · rw [oj_row_row, oj_row_s]
      rw [show i + 1 + ts.length = i + (ts.length + 1) by omega]
      have e1 : tk_st (tk_env w l r k n s) (d, m.1 5) t = (d', (tk_st (tk_env w l r k n s) (d, m.1 5) t).2) := Prod.ext (tk_dp_st h1) rfl
      have e2 : tk_run (tk_env w l r k n s) (d, m.1 5) (t :: ts) = tk_run (tk_env w l r k n s) (d', (tk_st (tk_env w l r k n s) (d, m.1 5) t).2) ts := by
        unfold tk_run
        rw [List.foldl_cons, ← e1]
      rw [e2] at hk
      exact hk
theorem s_sep59 {w l r k n s v8 : Int32} {i c : Nat} {m : ej_M} (hm : m.1 1 6 = nI c) (hc : c ≤ 121) (hi : i < c) (ht : m.1 4 i = -59) :
    f_X2_value_L29b w l r k n s (nI 1) v8 (nI i) m = if v8 = 0 then some (Sum.inl (nI 0, 1, nI (i + 1), m)) else some (Sum.inr (m.1 5 0, m)) := by
  unfold f_X2_value_L29b
  have hc2 : ¬ m.1 1 6 ≤ nI i := by
    rw [hm]
    exact fun q => by have := (nI_leI (by omega) (by omega)).mp q; omega
  rw [if_neg hc2, p_at1 ar_4 (by omega), ht]
  simp only [Option.bind_some, oj_sv0, p_len6]
  rw [show (-(6 : Int32)) = -6 from rfl, if_pos (by decide), if_neg (by decide), if_neg (by decide), show nI 1 + (-1) = nI 0 by decide, p_at1 ar_5 (by decide)]
  simp only [Option.bind_some, if_true]
  unfold f_X2_value_B175
  rw [if_pos rfl, nI_1]
theorem s_sep63 {w l r k n s v8 : Int32} {i c : Nat} {m : ej_M} (hm : m.1 1 6 = nI c) (hc : c ≤ 121) (hi : i < c) (ht : m.1 4 i = -63) :
    f_X2_value_L29b w l r k n s (nI 1) v8 (nI i) m = some (Sum.inl (nI 0, if m.1 5 0 = 0 then 0 else 1, nI (i + 1), m)) := by
  unfold f_X2_value_L29b
  have hc2 : ¬ m.1 1 6 ≤ nI i := by
    rw [hm]
    exact fun q => by have := (nI_leI (by omega) (by omega)).mp q; omega
  rw [if_neg hc2, p_at1 ar_4 (by omega), ht]
  simp only [Option.bind_some, oj_sv0, p_len6]
  rw [show (-(6 : Int32)) = -6 from rfl, if_pos (by decide), if_neg (by decide), if_neg (by decide), show nI 1 + (-1) = nI 0 by decide, p_at1 ar_5 (by decide)]
  simp only [Option.bind_some]
  rw [if_neg (by decide)]
  unfold f_X2_value_B175
  rw [if_neg (by decide), if_pos rfl, nI_1]
  split <;> rfl
theorem oj_getD_app {a b : List Int32} {j : Nat} (h : j < a.length) : (a ++ b).getD j 0 = a.getD j 0 := by
  rw [List.getD_eq_getElem?_getD, List.getD_eq_getElem?_getD, List.getElem?_append_left h]
theorem oj_getD_app2 {a b : List Int32} {j : Nat} : (a ++ b).getD (a.length + j) 0 = b.getD j 0 := by
  rw [List.getD_eq_getElem?_getD, List.getD_eq_getElem?_getD, List.getElem?_append_right (by omega), Nat.add_sub_cancel_left]
theorem s_lines {w l r k n s : Int32} {c : Nat} (hc : c ≤ 121) : ∀ (P : List (List Int32 × List Int32)) {i K : Nat} {m : ej_M}, (∀ q ∈ P, tk_wfl q) → i + (tk_flat P).length = c → m.1 1 6 = nI c → (∀ j, j < (tk_flat P).length → m.1 4 (i + j) = (tk_flat P).getD j 0) → (tk_flat P).length < K →
    oj_wp (oj_loop (s_vb w l r k n s) K (nI 0, 1, nI i, m)) (fun q => q.1 = tk_lines (tk_env w l r k n s) P ∧ ∃ g, q.2 = oj_row m 5 g) := by
  intro P
  induction P with
  | nil =>
    intro i K m hw hi hm hts hK
    obtain ⟨K, rfl⟩ : ∃ K', K = K' + 1 := ⟨K - 1, by omega⟩
    refine wp_loop1 ?_
    show oj_wp (f_X2_value_L29b w l r k n s (nI 0) 1 (nI i) m) _
    unfold f_X2_value_L29b
    have : i = c := by simpa [tk_flat] using hi
    rw [hm, if_pos (by rw [this]; exact Int32.le_refl _)]
    exact wp_inr ⟨rfl, m.1 5, oj_row_id.symm⟩
  | cons q P ih =>
    intro i K m hw hi hm hts hK
    obtain ⟨t, b⟩ := q
    have hwq := hw (t, b) List.mem_cons_self
    have hfl : tk_flat ((t, b) :: P) = tk_line (t, b) ++ tk_flat P := by simp [tk_flat]
    rw [hfl] at hi hts hK
    simp only [List.length_append] at hi hts hK
    obtain ⟨hw1, hw2⟩ := hwq
    simp only at hw1 hw2
    -- the rest of a line, from its body on
    have body : ∀ (v8 : Int32) (i' : Nat) (m' : ej_M) (K' : Nat), (∃ g, m' = oj_row m 5 g) → i' + (b.length + 1) = i + (tk_line (t, b)).length → (∀ j, j < b.length → m'.1 4 (i' + j) = b.getD j 0) → m'.1 4 (i' + b.length) = -59 → b.length + 1 + (tk_flat P).length < K' →
        oj_wp (oj_loop (s_vb w l r k n s) K' (nI 0, v8, nI i', m')) (fun q => (if v8 = 0 then q.1 = tk_lines (tk_env w l r k n s) P else q.1 = tk_v (tk_env w l r k n s) b) ∧ ∃ g, q.2 = oj_row m 5 g) := by
      intro v8 i' m' K' ⟨g, hg⟩ hi' hb h59 hK'
      have hm' : m'.1 1 6 = nI c := by rw [hg, oj_row_n (by decide)]; exact hm
      obtain ⟨K2, rfl⟩ : ∃ K2, K' = b.length + (K2 + 1) := ⟨K' - b.length - 1, by omega⟩
      refine s_vals hc b hw2 (Nat.zero_le _) (by omega) hm' hb ?_
      refine wp_loop1 ?_
      have hv := tk_v_of (env := tk_env w l r k n s) (g := m'.1 5) hw2
      show oj_wp (f_X2_value_L29b w l r k n s (nI 1) v8 (nI (i' + b.length)) (oj_row m' 5 (tk_run (tk_env w l r k n s) (0, m'.1 5) b).2)) _
      rw [s_sep59 (by rw [oj_row_n (by decide)]; exact hm') hc (by omega) (by rw [oj_row_n (by decide)]; exact h59)]
      by_cases h8 : v8 = 0
      · rw [if_pos h8]
        refine wp_inl ?_
        refine wp_mono (ih (i := i' + b.length + 1) (fun q hq => hw q (List.mem_cons_of_mem _ hq)) (by omega) (by rw [oj_row_n (by decide)]; exact hm') (fun j hj => ?_) (by omega)) fun q hq => ?_
        · rw [oj_row_n (by decide), hg, oj_row_n (by decide)]
          have := hts ((tk_line (t, b)).length + j) (by omega)
          rw [oj_getD_app2] at this
          rw [← this]
          exact congrArg (m.1 4) (by omega)
        · rw [if_pos h8]
          obtain ⟨q1, g2, q2⟩ := hq
          exact ⟨q1, g2, by rw [q2, oj_row_row, hg, oj_row_row]⟩
      · rw [if_neg h8]
        refine wp_inr ⟨?_, ?_⟩
        · rw [if_neg h8]
          show (oj_row m' 5 _).1 5 0 = _
          rw [oj_row_s]
          exact hv.2
        · exact ⟨_, by rw [hg, oj_row_row]⟩
    have htok : ∀ j, j < (tk_line (t, b)).length → m.1 4 (i + j) = (tk_line (t, b)).getD j 0 := fun j hj => by
      rw [hts j (by omega), oj_getD_app hj]
    by_cases ht : t = []
    · have hl : tk_line (t, b) = b ++ [-59] := by simp [tk_line, ht]
      rw [hl] at htok hi hK body
      simp only [List.length_append, List.length_cons, List.length_nil] at htok hi hK body
      refine wp_mono (body 1 i m K ⟨m.1 5, oj_row_id.symm⟩ (by omega) (fun j hj => by rw [htok j (by omega), oj_getD_app hj]) (by rw [htok b.length (by omega)]; have := oj_getD_app2 (a := b) (b := [-59]) (j := 0); simpa using this) (by omega)) fun q hq => ?_
      rw [if_neg (by decide)] at hq
      refine ⟨?_, hq.2⟩
      rw [hq.1]
      simp [tk_lines, ht]
    · have hl : tk_line (t, b) = (t ++ [-63]) ++ (b ++ [-59]) := by simp [tk_line, ht]
      have hwt := hw1.resolve_left ht
      rw [hl] at htok hi hK body
      simp only [List.length_append, List.length_cons, List.length_nil] at htok hi hK body
      obtain ⟨K2, rfl⟩ : ∃ K2, K = t.length + (K2 + 1) := ⟨K - t.length - 1, by omega⟩
      refine s_vals hc t hwt (Nat.zero_le _) (by omega) hm (fun j hj => by rw [htok j (by omega), oj_getD_app (by simp; omega), oj_getD_app hj]) ?_
      refine wp_loop1 ?_
      have hv := tk_v_of (env := tk_env w l r k n s) (g := m.1 5) hwt
      show oj_wp (f_X2_value_L29b w l r k n s (nI 1) 1 (nI (i + t.length)) (oj_row m 5 (tk_run (tk_env w l r k n s) (0, m.1 5) t).2)) _
      rw [s_sep63 (by rw [oj_row_n (by decide)]; exact hm) hc (by omega) (by
        rw [oj_row_n (by decide), htok t.length (by omega), oj_getD_app (by simp)]
        have := oj_getD_app2 (a := t) (b := [-63]) (j := 0)
        simpa using this)]
      refine wp_inl ?_
      have h5 : (oj_row m 5 (tk_run (tk_env w l r k n s) (0, m.1 5) t).2).1 5 0 = tk_v (tk_env w l r k n s) t := by
        rw [oj_row_s]
        exact hv.2
      rw [h5]
      refine wp_mono (body _ (i + t.length + 1) _ K2 ⟨_, rfl⟩ (by omega) (fun j hj => ?_) ?_ (by omega)) fun q hq => ?_
      · rw [oj_row_n (by decide), show i + t.length + 1 + j = i + ((t ++ [-63]).length + j) by simp; omega, htok _ (by simp; omega), oj_getD_app2, oj_getD_app hj]
      · rw [oj_row_n (by decide), show i + t.length + 1 + b.length = i + ((t ++ [-63]).length + b.length) by simp; omega, htok _ (by simp), oj_getD_app2]
        have := oj_getD_app2 (a := b) (b := [-59]) (j := 0)
        simpa using this
      · refine ⟨?_, hq.2⟩
        have q1 := hq.1
        simp only [tk_lines, if_neg ht]
        by_cases h0 : tk_v (tk_env w l r k n s) t = 0
        · rw [if_pos h0, if_pos rfl] at q1
          rw [if_pos h0]; exact q1
        · rw [if_neg h0, if_neg (by decide)] at q1
          rw [if_neg h0]; exact q1
/-- what the law says: none: plainly -/
def tk_law (P : Option (List (List Int32 × List Int32))) (w l r k n s : Int32) : Int32 := match P with
  | none => if l + r < w then 0 else 1
  | some P => tk_lines (tk_env w l r k n s) P
/-- the class holds this law -/
def LX (P : Option (List (List Int32 × List Int32))) (m : ej_M) : Prop := match P with
  | none => m.1 1 6 = 0
  | some P => tk_wf P ∧ P ≠ [] ∧ m.1 1 6 = nI (tk_flat P).length ∧ ∀ j, j < (tk_flat P).length → m.1 4 j = (tk_flat P).getD j 0
theorem tk_flat_pos {P : List (List Int32 × List Int32)} (h : P ≠ []) : 0 < (tk_flat P).length := by
  cases P with
  | nil => exact absurd rfl h
  | cons q P => simp [tk_flat, tk_line]; omega
theorem s_value {P : Option (List (List Int32 × List Int32))} {m : ej_M} (hX : LX P m) (w l r k n s : Int32) : oj_wp (f_X2_value w l r k n s m) (fun q => q.1 = tk_law P w l r k n s ∧ ∃ g, q.2 = oj_row m 5 g) := by
  unfold f_X2_value
  cases P with
  | none =>
    have h : m.1 1 6 = 0 := hX
    rw [if_pos h]
    by_cases h2 : l + r < w
    · rw [if_pos h2]; exact wp_some ⟨by simp [tk_law, h2], m.1 5, oj_row_id.symm⟩
    · rw [if_neg h2]; exact wp_some ⟨by simp [tk_law, h2], m.1 5, oj_row_id.symm⟩
  | some P =>
    obtain ⟨⟨hw, hlen⟩, hne, hm, hts⟩ := hX
    have hpos := tk_flat_pos hne
    rw [if_neg (by rw [hm]; exact fun q => by have := (nI_eq0 (by omega)).mp q; omega)]
    unfold f_X2_value_L29
    have := s_lines (w := w) (l := l) (r := r) (k := k) (n := n) (s := s) (c := (tk_flat P).length) hlen P (i := 0) (K := oj_FU) (m := m) hw (by omega) hm (fun j hj => by rw [Nat.zero_add]; exact hts j hj) (by unfold oj_FU; omega)
    exact this
