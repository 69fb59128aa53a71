/-! set -/
theorem fst_all {f : Nat → Bool} {n : Nat} {v : Int32} (hn : n < 1000) (h : x_fst v f n) (hv : v < 0) : (∀ q, q < n → f q = true) ∧ v = -2 := by
  rcases h with ⟨p, a, b, c, rfl⟩ | h
  · exact absurd hv (nI_pos (by omega))
  · exact h
theorem op_set (v1 v2 : Int32) : OP (f_X10_set v1 v2) (f_X11_set v1 v2) := by
  intro L xs b m ⟨n, k, ρ, P, nb, hI, hC⟩ hb
  obtain ⟨h1, h2, h3, h4, h5, h6, h7, h8, h9, h10, h11, h12, h13, h14, h15⟩ := id hI.1
  have hno : ∀ u, f_X10_set v1 v2 m = some (u, m) → f_X11_set v1 v2 m = some (u, m) → oj_wp (f_X10_set v1 v2 m) fun q => (q.2.1 4000 = m.1 4000 ∧ q.2.1 4001 = m.1 4001) ∧ oj_wp (f_X11_set v1 v2 q.2) fun r => q.1 = r.1 ∧ Inv L xs (b + oST) r.2 := fun u hx hm => by
    rw [hx]
    refine wp_some ⟨⟨rfl, rfl⟩, ?_⟩
    rw [hm]
    exact wp_some ⟨rfl, n, k, ρ, P, nb, hI, CB_step hC⟩
  rcases r_cases v1 n with ⟨s, hs, rfl⟩ | hN
  rotate_left
  · refine hno (-1) ?_ ?_
    · unfold f_X10_set
      rw [x_hasN h3 (by omega) hN, o_bs, if_pos rfl]
    · unfold f_X11_set
      rw [m_stoneN h4 (by omega) hN, o_bs, if_pos rfl]
  rcases r_cases v2 (k + 1) with ⟨p, hp, rfl⟩ | hN
  rotate_left
  · refine hno (-1) ?_ ?_
    · unfold f_X10_set
      rw [x_hasY h3 (by omega) hs, o_bs, if_neg i10]
      by_cases e : v2 < 0
      · rw [if_pos e]
      · rw [if_neg e, h5, if_neg]
        intro q
        obtain ⟨j, hj, rfl⟩ := nI_of e
        have := (nI_leI hj (by omega)).mp q
        exact hN j (by omega) rfl
    · unfold f_X11_set
      rw [m_stoneY h4 (by omega) hs, o_bs, if_neg i10, m_inK (N := k + 1) (by omega) (by simp only; rw [h6, nI_pred]) hN, o_bs, if_pos rfl]
  obtain ⟨u, u1, u2⟩ := x_placeOf h5 (by omega) (fun q hq => (h8 q hq).1) (nI s)
  have hxx : ∀ m', m'.1 6 2 = nI n → m'.1 6 4 = nI k → f_X4_placeOf (nI s) m' = some (u, m') → f_X10_set (nI s) (nI p) m' = if u = (-2) then (f_X10_insert 8 (nI k) (nI p) (nI s) m').bind fun q3 => (oj_pf q3.2 6 4 ((q3.2.1 6 4) + 1)).bind fun m4 => (f_X4_lead m4).bind fun q5 => some ((q5.2.1 6 4), q5.2) else some ((-5), m') := fun m' g1 g2 g3 => by
    unfold f_X10_set
    rw [x_hasY g1 (by omega) hs, o_bs, if_neg i10, if_neg (nI_pos (by omega)), g2, if_pos ((nI_leI (by omega) (by omega)).mpr (by omega)), g3, o_bs]
    simp only
    rw [g2]
  have hmm : ∀ m', m'.1 41 1 = nI n → m'.1 41 4 = nI k → (∀ q, q < k → m'.1 43 q = nI (ρ q)) → f_X11_set (nI s) (nI p) m' = if u < 0 then f_X11_set_L38 (nI s) (nI p) (nI k) m' else some ((-5), m') := fun m' g1 g2 g3 => by
    obtain ⟨u', w1, w2⟩ := m_placeOf g2 (by omega) g3 (nI s)
    have : u' = u := fst_eq w2 u2
    subst this
    unfold f_X11_set
    rw [m_stoneY g1 (by omega) hs, o_bs, if_neg i10, m_inKY (N := k + 1) hp (by omega) (by simp only; rw [g2, nI_pred]), o_bs, if_neg i10, w1, o_bs]
    simp only
    rw [g2]
  by_cases hu : u < 0
  rotate_left
  · refine hno (-5) ?_ ?_
    · rw [hxx m h3 h5 u1, if_neg]
      intro e
      rw [e] at hu
      exact hu (by decide)
    · rw [hmm m h4 h6 (fun q hq => (h8 q hq).2.1), if_neg hu]
  obtain ⟨hnone, hu2⟩ := fst_all (by omega) u2 hu
  have hnot : ∀ q, q < k → ρ q ≠ s := fun q hq e => by
    have := of_decide_eq_true (hnone q hq)
    exact this (by rw [e])
  have b4 : ∀ q r, q < k + 1 → r < k + 1 → r_in p s ρ q = r_in p s ρ r → q = r := fun q r hq hr e => by
    unfold r_in at e
    by_cases e1 : q = p
    · rw [if_pos e1] at e
      by_cases e2 : r = p
      · omega
      · rw [if_neg e2] at e
        by_cases e3 : p < r
        · rw [if_pos e3] at e; exact absurd e.symm (hnot (r - 1) (by omega))
        · rw [if_neg e3] at e; exact absurd e.symm (hnot r (by omega))
    · rw [if_neg e1] at e
      by_cases e2 : r = p
      · rw [if_pos e2] at e
        by_cases e3 : p < q
        · rw [if_pos e3] at e; exact absurd e (hnot (q - 1) (by omega))
        · rw [if_neg e3] at e; exact absurd e (hnot q (by omega))
      · rw [if_neg e2] at e
        by_cases e3 : p < q
        · rw [if_pos e3] at e
          by_cases e4 : p < r
          · rw [if_pos e4] at e; have := h9 (q - 1) (r - 1) (by omega) (by omega) e; omega
          · rw [if_neg e4] at e; have := h9 (q - 1) r (by omega) (by omega) e; omega
        · rw [if_neg e3] at e
          by_cases e4 : p < r
          · rw [if_pos e4] at e; have := h9 q (r - 1) (by omega) (by omega) e; omega
          · rw [if_neg e4] at e; exact h9 q r (by omega) (by omega) e
  have b0 : ∀ q, q < k + 1 → r_in p s ρ q < n := fun q hq => by
    unfold r_in
    by_cases e1 : q = p
    · rw [if_pos e1]; exact hs
    · rw [if_neg e1]
      by_cases e3 : p < q
      · rw [if_pos e3]; exact (h8 (q - 1) (by omega)).2.2
      · rw [if_neg e3]; exact (h8 q (by omega)).2.2
  have hkn : k + 1 ≤ n := inj_le n (k + 1) (r_in p s ρ) b0 b4
  rw [hxx m h3 h5 u1, if_pos hu2, x_insert ar_8 (by omega) (by omega) (by omega), o_bs]
  unfold oj_pf
  rw [o_bs]
  simp only
  rw [oj_row_n (by decide), h5, nI_1]
  have b1 : oj_sm (fun a j => a = 8 ∨ (a = 6 ∧ j = 4)) m (ej_w (oj_row m 8 (o_in k p (nI s) (m.1 8))) 6 4 (nI (k + 1))) := by
    refine sm_trans (sm_row fun j hj => absurd (Or.inl rfl) hj) (sm_w (Or.inr ⟨rfl, rfl⟩))
  have b2 : (ej_w (oj_row m 8 (o_in k p (nI s) (m.1 8))) 6 4 (nI (k + 1))).1 6 4 = nI (k + 1) := w_same
  have b3 : ∀ q, q < k + 1 → (ej_w (oj_row m 8 (o_in k p (nI s) (m.1 8))) 6 4 (nI (k + 1))).1 8 q = nI (r_in p s ρ q) ∧ r_in p s ρ q < n := fun q hq => by
    refine ⟨?_, b0 q hq⟩
    rw [w_place (by decide), oj_row_s]
    unfold o_in r_in
    by_cases e1 : q = p
    · rw [if_pos e1, if_pos e1]
    · rw [if_neg e1, if_neg e1]
      by_cases e : p < q
      · rw [if_pos ⟨e, by omega⟩, if_pos e]; exact (h8 (q - 1) (by omega)).1
      · rw [if_neg (by omega), if_neg e]; exact (h8 q (by omega)).1
  have b5 : CB P b (ej_w (oj_row m 8 (o_in k p (nI s) (m.1 8))) 6 4 (nI (k + 1))) := CB_congr hC (fun i _ => by rw [w_place (by decide), oj_row_n (by decide)]) (by rw [w_other (by omega), oj_row_n (by decide)]) (by rw [w_other (by omega), oj_row_n (by decide)]) (fun i _ => by rw [w_place (by decide), oj_row_n (by decide)])
  have b6 : LX P (ej_w (oj_row m 8 (o_in k p (nI s) (m.1 8))) 6 4 (nI (k + 1))) := LX_congr (b1.2 1 6 (by omega)) (fun j _ => b1.2 4 j (by omega)) h14
  generalize ej_w (oj_row m 8 (o_in k p (nI s) (m.1 8))) 6 4 (nI (k + 1)) = m1 at *
  refine wp_bind (wp_mono (x_lead b6 b2 (by omega) (fun q hq => ⟨(b3 q hq).1, by have := (b3 q hq).2; omega⟩) b5 (by unfold oST at hb; omega)) fun q hq => ?_)
  obtain ⟨q1, q2, q3, q4⟩ := hq
  have y : ∀ a j, ¬ (a = 8 ∨ a = 5 ∨ a = 10 ∨ a = 6) → q.2.1 a j = m.1 a j := fun a j h => by
    rw [q1.2 a j (by unfold sXL XC; omega), b1.2 a j (by omega)]
  have y64 : q.2.1 6 4 = nI (k + 1) := by rw [q1.2 6 4 (by unfold sXL XC; omega)]; exact b2
  have y43 : q.2.1 43 = m.1 43 := funext fun j => y 43 j (by omega)
  refine wp_some ⟨⟨funext fun j => y 4000 j (by omega), funext fun j => y 4001 j (by omega)⟩, ?_⟩
  simp only
  generalize q.2 = m2 at *
  rw [hmm m2 (by rw [y 41 1 (by omega)]; exact h4) (by rw [y 41 4 (by omega)]; exact h6) (fun q hq => by rw [y 43 q (by omega)]; exact (h8 q hq).2.1), if_pos hu, y64]
  unfold f_X11_set_L38
  have e4 : m2.1 41 4 = nI k := by rw [y 41 4 (by omega)]; exact h6
  refine wp_dn (fun i => oj_row m2 43 (fun q => if i < q ∧ q ≤ k then m.1 43 (q - 1) else m.1 43 q)) (n := p) (i0 := k) (by omega) (by omega) ?_ (fun i hi hpi => ?_) ?_
  · have : (fun q => if k < q ∧ q ≤ k then m.1 43 (q - 1) else m.1 43 q) = m2.1 43 := by
      rw [y43]; exact funext fun j => if_neg (by omega)
    simp only [this, oj_row_id]
  · simp only
    unfold f_X11_set_L38b
    rw [if_neg (fun q => by have := (nI_leI (by omega) (by omega)).mp q; omega), nI_m1 (by omega), nI_am1 (by omega), oj_ar_ld ar_43 (by omega), o_bs, oj_row_s]
    rw [if_neg (by omega), oj_ar_st ar_43 (by omega), o_bs, oj_row_row, oj_row_s]
    have : upd (fun q => if i < q ∧ q ≤ k then m.1 43 (q - 1) else m.1 43 q) i (m.1 43 (i - 1)) = (fun q => if i - 1 < q ∧ q ≤ k then m.1 43 (q - 1) else m.1 43 q) := by
      funext j
      unfold upd
      by_cases e : j = i
      · rw [if_pos e, if_pos (by omega), e]
      · simp only [if_neg e]
        by_cases e2 : i < j ∧ j ≤ k
        · rw [if_pos e2, if_pos (by omega)]
        · rw [if_neg e2, if_neg (by omega)]
    rw [this]
  · simp only
    unfold f_X11_set_L38b oj_pf
    rw [if_pos (Int32.le_refl _), oj_ar_st ar_43 (by omega), o_bs, o_bs, oj_row_row, oj_row_s, oj_row_n (by decide), e4, nI_1]
    have c1 : oj_sm (fun a j => a = 43 ∨ (a = 41 ∧ j = 4) ∨ SE a j) m2 (ej_w (oj_row m2 43 (upd (fun q => if p < q ∧ q ≤ k then m.1 43 (q - 1) else m.1 43 q) p (nI s))) 41 4 (nI (k + 1))) := sm_trans (sm_row fun j hj => absurd (Or.inl rfl) hj) (sm_w (Or.inr (Or.inl ⟨rfl, rfl⟩)))
    have c2 : (ej_w (oj_row m2 43 (upd (fun q => if p < q ∧ q ≤ k then m.1 43 (q - 1) else m.1 43 q) p (nI s))) 41 4 (nI (k + 1))).1 41 4 = nI (k + 1) := w_same
    have c3 : ∀ q, q < k + 1 → (ej_w (oj_row m2 43 (upd (fun q => if p < q ∧ q ≤ k then m.1 43 (q - 1) else m.1 43 q) p (nI s))) 41 4 (nI (k + 1))).1 43 q = nI (r_in p s ρ q) := fun q hq => by
      rw [w_place (by decide), oj_row_s]
      unfold upd r_in
      by_cases e1 : q = p
      · rw [if_pos e1, if_pos e1]
      · simp only [if_neg e1]
        by_cases e : p < q
        · rw [if_pos ⟨e, by omega⟩, if_pos e]; exact (h8 (q - 1) (by omega)).2.1
        · rw [if_neg (by omega), if_neg e]; exact (h8 q (by omega)).2.1
    generalize ej_w (oj_row m2 43 (upd (fun q => if p < q ∧ q ≤ k then m.1 43 (q - 1) else m.1 43 q) p (nI s))) 41 4 (nI (k + 1)) = m4 at *
    have hL4 : LM P m4 := by
      have f : ∀ a, (a = 49 ∨ a = 50 ∨ a = 51 ∨ a = 52 ∨ a = 53) → m4.1 a = m.1 a := fun a ha => funext fun j => by
        rw [c1.2 a j (by unfold SE; omega), y a j (by omega)]
      exact LM_congr (by rw [c1.2 41 27 (by unfold SE; omega), y 41 27 (by omega)]) (f 51 (by omega)) (f 49 (by omega)) (f 50 (by omega)) (f 52 (by omega)) (f 53 (by omega)) h15
    refine wp_bind (wp_mono (m_lead hL4 c2 (by omega) (fun q hq => ⟨c3 q hq, by have := (b3 q hq).2; omega⟩)) fun r hr => ?_)
    obtain ⟨r1, r2, r3⟩ := hr
    refine wp_inr ⟨?_, ?_⟩
    · simp only
      rw [r1.2 41 4 (by unfold sML SE; omega), c2]
    · obtain ⟨z1, z2⟩ := both_lead hI hkn b1 b2 b3 b4 q1 q2 q3 q4 c1 c2 c3 r1 r2 r3
      exact ⟨n, k + 1, r_in p s ρ, P, nb, z1, CB_le z2 (by unfold oST; omega)⟩
