/-! turn -/
theorem dv_10 {j : Nat} (hj : j < 2 ^ 31) : oj_dv (nI j) 10 = some (nI (j / 10)) := by
  unfold oj_dv
  rw [if_neg (by decide)]
  exact congrArg some (pk_div (d := 10) hj (by decide) (by decide))
theorem rm_10 {j : Nat} (hj : j < 2 ^ 31) : oj_rm (nI j) 10 = some (nI (j % 10)) := by
  unfold oj_rm
  rw [if_neg (by decide)]
  exact congrArg some (pk_rem (d := 10) hj (by decide) (by decide))
theorem m_swap {m : ej_M} {i j : Nat} (hi : i < 9) (hj : j < 9) : f_X11_swapRow (nI i) (nI j) m = some ((), oj_row m 56 (o_xc i j (m.1 56))) := by
  unfold f_X11_swapRow
  rw [oj_ar_ld ar_56 hi, o_bs, oj_ar_ld ar_56 hj, o_bs, oj_ar_st ar_56 hi, o_bs, oj_ar_st ar_56 hj, o_bs, oj_row_row, oj_row_s]
  rfl
theorem m_turnRow {m : ej_M} {i j : Nat} (hij : i ≤ j) (hj : j < 9) : f_X11_turnRow (nI i) (nI j) m = some ((), oj_row m 56 (o_rv i j (m.1 56))) := by
  unfold f_X11_turnRow f_X11_turnRow_L5
  have hq : ∀ r, r < (j - i + 1) / 2 → i + r < j - r := fun r hr => by omega
  refine wp_get (wp_loop (fun q s => s = (nI (i + q), nI (j - q), oj_row m 56 (fun k => if (i ≤ k ∧ k < i + q) ∨ (j - q < k ∧ k ≤ j) then m.1 56 (i + j - k) else m.1 56 k))) ((j - i + 1) / 2) (by unfold oj_FU; omega) (fun q s hi hI => ?_) (fun s hI => ?_) (i0 := 0) (by omega) ?_)
  · rw [hI]
    simp only
    unfold f_X11_turnRow_L5b
    have := hq q hi
    rw [if_neg (fun x => by have := (nI_leI (by omega) (by omega)).mp x; omega), m_swap (by omega) (by omega), o_bs, oj_row_row, oj_row_s, o_rv_step this, nI_1, nI_am1 (by omega)]
    exact wp_inl (by rw [Nat.add_assoc, show j - q - 1 = j - (q + 1) by omega])
  · rw [hI]
    simp only
    unfold f_X11_turnRow_L5b
    rw [if_pos ((nI_leI (by omega) (by omega)).mpr (by omega)), o_rv_end hij (by omega) hq]
    exact wp_inr rfl
  · have : (fun k => if (i ≤ k ∧ k < i + 0) ∨ (j - 0 < k ∧ k ≤ j) then m.1 56 (i + j - k) else m.1 56 k) = m.1 56 := funext fun k => if_neg (by omega)
    simp only [this, oj_row_id]
    rfl
def r_rv (i j : Nat) (ρ : Nat → Nat) (q : Nat) : Nat := if i ≤ q ∧ q ≤ j then ρ (i + j - q) else ρ q
theorem rv_nI {i j k q : Nat} {f : Nat → Int32} {ρ : Nat → Nat} (hj : j < k) (h : ∀ q, q < k → f q = nI (ρ q)) (hq : q < k) : o_rv i j f q = nI (r_rv i j ρ q) := by
  unfold o_rv r_rv
  by_cases e : i ≤ q ∧ q ≤ j
  · rw [if_pos e, if_pos e]; exact h _ (by omega)
  · rw [if_neg e, if_neg e]; exact h _ hq
theorem rv_inj {i j k : Nat} {ρ : Nat → Nat} (hj : j < k) (h : ∀ p q, p < k → q < k → ρ p = ρ q → p = q) : ∀ p q, p < k → q < k → r_rv i j ρ p = r_rv i j ρ q → p = q := by
  intro p q hp hq e
  unfold r_rv at e
  by_cases e1 : i ≤ p ∧ p ≤ j
  · rw [if_pos e1] at e
    by_cases e2 : i ≤ q ∧ q ≤ j
    · rw [if_pos e2] at e; have := h _ _ (by omega) (by omega) e; omega
    · rw [if_neg e2] at e; have := h _ _ (by omega) hq e; omega
  · rw [if_neg e1] at e
    by_cases e2 : i ≤ q ∧ q ≤ j
    · rw [if_pos e2] at e; have := h _ _ hp (by omega) e; omega
    · rw [if_neg e2] at e; exact h _ _ hp hq e
theorem op_turn (v : Int32) : OP (f_X10_turn v) (f_X11_turn v) := by
  intro L xs b m ⟨n, k, ρ, P, nb, hI, hC⟩ hb
  obtain ⟨h1, h2, h3, h4, h5, h6, h7, h8, h9, h10, h11, h12, h13, h14, h15⟩ := id hI.1
  have hno : f_X10_turn v m = some (-1, m) → f_X11_turn v m = some (-1, m) → oj_wp (f_X10_turn v m) fun q => (q.2.1 4000 = m.1 4000 ∧ q.2.1 4001 = m.1 4001) ∧ oj_wp (f_X11_turn v q.2) fun r => q.1 = r.1 ∧ Inv L xs (b + oST) r.2 := fun hx hm => by
    rw [hx]
    refine wp_some ⟨⟨rfl, rfl⟩, ?_⟩
    rw [hm]
    exact wp_some ⟨rfl, n, k, ρ, P, nb, hI, CB_step hC⟩
  by_cases hv : v < 0
  · refine hno ?_ ?_
    · unfold f_X10_turn
      rw [if_neg (Int32.not_le.mpr hv)]
    · unfold f_X11_turn
      rw [if_pos hv]
  obtain ⟨w, hw, rfl⟩ := nI_of hv
  have hnN : ∀ x, ¬ x < k → x < 2 ^ 31 → ∀ i, i < k → nI x ≠ nI i := fun x hx hx2 i hi e => by
    have := nI_inj hx2 (by omega) e; omega
  have hM : ∀ m', m'.1 41 4 = nI k → f_X11_turn (nI w) m' = if w / 10 < k ∧ w % 10 < k ∧ w / 10 < w % 10 then (f_X11_see m').bind fun q7 => (f_X11_turnRow (nI (w / 10)) (nI (w % 10)) q7.2).bind fun q10 => f_X11_turn_L57 (nI w) 0 q10.2 else some (-1, m') := fun m' g => by
    unfold f_X11_turn
    rw [if_neg hv, dv_10 hw, rm_10 hw, o_bs]
    by_cases a1 : w / 10 < k
    · rw [m_placeY g (by omega) a1, o_bs, if_neg i10, o_bs]
      by_cases a2 : w % 10 < k
      · rw [m_placeY g (by omega) a2, o_bs, if_neg i10, o_bs, o_bs]
        by_cases a3 : w / 10 < w % 10
        · rw [if_pos ((nI_ltI (by omega) (by omega)).mpr a3), if_pos ⟨a1, a2, a3⟩]
          rfl
        · rw [if_neg (fun q => a3 ((nI_ltI (by omega) (by omega)).mp q)), if_neg (fun q => a3 q.2.2)]
      · rw [m_placeN g (by omega) (hnN _ a2 (by omega)), o_bs, if_pos rfl, if_neg (fun q => a2 q.2.1)]
    · rw [m_placeN g (by omega) (hnN _ a1 (by omega)), o_bs, if_pos rfl, if_neg (fun q => a1 q.1)]
  have hX : f_X10_turn (nI w) m = if w / 10 < k ∧ w % 10 < k ∧ w / 10 < w % 10 then (f_X10_reverse 8 (nI (w / 10)) (nI (w % 10)) m).bind fun q4 => (f_X4_lead q4.2).bind fun q5 => some (((nI (w % 10) - nI (w / 10)) + 1), q5.2) else some (-1, m) := by
    unfold f_X10_turn
    rw [if_pos (nI_0le hw), dv_10 hw, rm_10 hw, o_bs, o_bs]
    by_cases a3 : w / 10 < w % 10
    · rw [if_neg (fun q => by have := (nI_leI (by omega) (by omega)).mp q; omega)]
      by_cases a2 : w % 10 < k
      · rw [x_placeY h5 (by omega) a2, o_bs, if_neg i10, if_pos ⟨by omega, a2, a3⟩]
      · rw [x_placeN h5 (by omega) (hnN _ a2 (by omega)), o_bs, if_pos rfl, if_neg (fun q => a2 q.2.1)]
    · rw [if_pos ((nI_leI (by omega) (by omega)).mpr (by omega)), if_neg (fun q => a3 q.2.2)]
  by_cases hc : w / 10 < k ∧ w % 10 < k ∧ w / 10 < w % 10
  rotate_left
  · exact hno (by rw [hX, if_neg hc]) (by rw [hM m h6, if_neg hc])
  obtain ⟨a1, a2, a3⟩ := id hc
  generalize hwi : w / 10 = i at *
  generalize hwj : w % 10 = j at *
  rw [hX, if_pos hc, x_reverse ar_8 (by decide) (by omega) (by omega), o_bs]
  simp only
  have b1 : oj_sm (fun a j => a = 8 ∨ (a = 6 ∧ j = 4)) m (oj_row m 8 (o_rv i j (m.1 8))) := sm_row fun j hj => absurd (Or.inl rfl) hj
  have b2 : (oj_row m 8 (o_rv i j (m.1 8))).1 6 4 = nI k := by rw [oj_row_n (by decide)]; exact h5
  have b0 : ∀ q, q < k → r_rv i j ρ q < n := fun q hq => by
    unfold r_rv
    by_cases e : i ≤ q ∧ q ≤ j
    · rw [if_pos e]; exact (h8 _ (by omega)).2.2
    · rw [if_neg e]; exact (h8 q hq).2.2
  have b3 : ∀ q, q < k → (oj_row m 8 (o_rv i j (m.1 8))).1 8 q = nI (r_rv i j ρ q) ∧ r_rv i j ρ q < n := fun q hq => ⟨by rw [oj_row_s]; exact rv_nI a2 (fun q hq => (h8 q hq).1) hq, b0 q hq⟩
  have b4 := rv_inj (i := i) a2 h9
  have b5 : CB P b (oj_row m 8 (o_rv i j (m.1 8))) := CB_congr hC (fun i _ => by rw [oj_row_n (by decide)]) (by rw [oj_row_n (by decide)]) (by rw [oj_row_n (by decide)]) (fun i _ => by rw [oj_row_n (by decide)])
  have b6 : LX P (oj_row m 8 (o_rv i j (m.1 8))) := LX_congr (b1.2 1 6 (by omega)) (fun j _ => b1.2 4 j (by omega)) h14
  generalize oj_row m 8 (o_rv i j (m.1 8)) = m1 at *
  refine wp_bind (wp_mono (x_lead b6 b2 (by omega) (fun q hq => ⟨(b3 q hq).1, by have := (b3 q hq).2; omega⟩) b5 (by unfold oST at hb; omega)) fun q hq => ?_)
  obtain ⟨q1, q2, q3, q4⟩ := hq
  have y : ∀ a j, ¬ (a = 8 ∨ a = 5 ∨ a = 10 ∨ a = 6) → q.2.1 a j = m.1 a j := fun a j h => by
    rw [q1.2 a j (by unfold sXL XC; omega), b1.2 a j (by omega)]
  refine wp_some ⟨⟨funext fun j => y 4000 j (by omega), funext fun j => y 4001 j (by omega)⟩, ?_⟩
  simp only
  generalize q.2 = m2 at *
  have e4 : m2.1 41 4 = nI k := by rw [y 41 4 (by omega)]; exact h6
  have e43 : ∀ q, q < k → m2.1 43 q = nI (ρ q) := fun q hq => by rw [y 43 q (by omega)]; exact (h8 q hq).2.1
  have hL2 : LM P m2 := by
    have f : ∀ a, (a = 49 ∨ a = 50 ∨ a = 51 ∨ a = 52 ∨ a = 53) → m2.1 a = m.1 a := fun a ha => funext fun j => y a j (by omega)
    exact LM_congr (y 41 27 (by omega)) (f 51 (by omega)) (f 49 (by omega)) (f 50 (by omega)) (f 52 (by omega)) (f 53 (by omega)) h15
  rw [hM m2 e4, if_pos hc]
  refine wp_bind (wp_mono (m_see hL2 e4 (by omega) (fun q hq => ⟨e43 q hq, by have := (h8 q hq).2.2; omega⟩)) fun r hr => ?_)
  obtain ⟨s1, s2⟩ := hr
  rw [m_turnRow (by omega) (by omega), o_bs]
  simp only
  have s3 : oj_sm (fun a j => a = 43 ∨ (a = 41 ∧ j = 4) ∨ SE a j) m2 (oj_row r.2 56 (o_rv i j (r.2.1 56))) := sm_trans (sm_mono s1 fun a j x => Or.inr (Or.inr x)) (sm_row fun j hj => absurd (Or.inr (Or.inr (Or.inr (Or.inr (Or.inr rfl))))) hj)
  have s4 : ∀ q, q < k → (oj_row r.2 56 (o_rv i j (r.2.1 56))).1 56 q = nI (r_rv i j ρ q) := fun q hq => by
    rw [oj_row_s]; exact rv_nI a2 (fun q hq => (s2.2.2.2 q hq).1) hq
  have s5 : (oj_row r.2 56 (o_rv i j (r.2.1 56))).1 41 4 = nI k := by rw [oj_row_n (by decide), SE_4 s1]; exact e4
  generalize oj_row r.2 56 (o_rv i j (r.2.1 56)) = m3 at *
  unfold f_X11_turn_L57
  refine wp_up (fun i => oj_row m3 43 (o_cp i (m3.1 56) (m3.1 43))) (n := k) (i0 := 0) (by omega) (by omega) ?_ (fun i _ hi => ?_) ?_
  · have : o_cp 0 (m3.1 56) (m3.1 43) = m3.1 43 := funext fun j => if_neg (by omega)
    simp only [this, oj_row_id]
  · simp only
    unfold f_X11_turn_L57b
    rw [oj_row_n (by decide), s5, if_neg (fun q => by have := (nI_leI (by omega) (by omega)).mp q; omega), oj_ar_ld ar_56 (by omega), o_bs, oj_ar_st ar_43 (by omega), o_bs, nI_1, oj_row_row, oj_row_s, oj_row_n (by decide)]
    have : upd (o_cp i (m3.1 56) (m3.1 43)) i (m3.1 56 i) = o_cp (i + 1) (m3.1 56) (m3.1 43) := by
      funext j
      unfold upd o_cp
      by_cases e : j = i
      · rw [if_pos e, if_pos (by omega), e]
      · rw [if_neg e]
        by_cases e2 : j < i
        · rw [if_pos e2, if_pos (by omega)]
        · rw [if_neg e2, if_neg (by omega)]
    rw [this]
  · simp only
    unfold f_X11_turn_L57b
    rw [oj_row_n (by decide), s5, if_pos (Int32.le_refl _)]
    have c1 : oj_sm (fun a j => a = 43 ∨ (a = 41 ∧ j = 4) ∨ SE a j) m2 (oj_row m3 43 (o_cp k (m3.1 56) (m3.1 43))) := sm_trans s3 (sm_row fun j hj => absurd (Or.inl rfl) hj)
    have c2 : (oj_row m3 43 (o_cp k (m3.1 56) (m3.1 43))).1 41 4 = nI k := by rw [oj_row_n (by decide)]; exact s5
    have c3 : ∀ q, q < k → (oj_row m3 43 (o_cp k (m3.1 56) (m3.1 43))).1 43 q = nI (r_rv i j ρ q) := fun q hq => by
      rw [oj_row_s]
      unfold o_cp
      rw [if_pos hq]
      exact s4 q hq
    generalize oj_row m3 43 (o_cp k (m3.1 56) (m3.1 43)) = m4 at *
    have hL4 : LM P m4 := by
      have f : ∀ a, (a = 49 ∨ a = 50 ∨ a = 51 ∨ a = 52 ∨ a = 53) → m4.1 a = m2.1 a := fun a ha => funext fun j => c1.2 a j (by unfold SE; omega)
      exact LM_congr (c1.2 41 27 (by unfold SE; omega)) (f 51 (by omega)) (f 49 (by omega)) (f 50 (by omega)) (f 52 (by omega)) (f 53 (by omega)) hL2
    refine wp_bind (wp_mono (m_lead hL4 c2 (by omega) (fun q hq => ⟨c3 q hq, by have := (b3 q hq).2; omega⟩)) fun r hr => ?_)
    obtain ⟨r1, r2, r3⟩ := hr
    rw [rm_10 hw, dv_10 hw, o_bs, o_bs]
    refine wp_inr ⟨?_, ?_⟩
    · simp only
      rw [hwi, hwj]
    · obtain ⟨z1, z2⟩ := both_lead hI h2 b1 b2 b3 b4 q1 q2 q3 q4 c1 c2 c3 r1 r2 r3
      exact ⟨n, k, r_rv i j ρ, P, nb, z1, CB_le z2 (by unfold oST; omega)⟩
