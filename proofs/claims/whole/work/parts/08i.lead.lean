/-! what was led -/
def sXL (a j : Nat) : Prop := XC a j ∨ (a = 6 ∧ (j = 6 ∨ j = 7))
def sML (a j : Nat) : Prop := SE a j ∨ (a = 41 ∧ (j = 6 ∨ j = 7))
theorem x_lead {P : Option (List (List Int32 × List Int32))} {k b : Nat} {ρ : Nat → Nat} {m : ej_M} (hX : LX P m) (hm : m.1 6 4 = nI k) (hk : k ≤ 8) (hρ : ∀ q, q < k → m.1 8 q = nI (ρ q) ∧ ρ q < 8) (hC : CB P b m) (hb : b + 1 < 2 ^ 28) : oj_wp (f_X4_lead m) fun q => oj_sm sXL m q.2 ∧ q.2.1 6 6 = m.1 6 6 + 1 ∧ q.2.1 6 7 = (if lwA (lw P (m.1 7) (m.1 6 5) ρ k) k then m.1 6 7 else m.1 6 7 + 1) ∧ CB P (b + 1) q.2 := by
  unfold f_X4_lead oj_pf
  rw [o_bs, w_other (by omega), hm]
  have hs0 : oj_sm sXL m (ej_w m 6 6 (m.1 6 6 + 1)) := sm_w (by unfold sXL; omega)
  have hC0 : CB P b (ej_w m 6 6 (m.1 6 6 + 1)) := CB_congr hC (fun i _ => by rw [w_place (by decide)]) (w_other (by omega)) (w_other (by omega)) (fun i _ => by rw [w_place (by decide)])
  have e7 : (ej_w m 6 6 (m.1 6 6 + 1)).1 7 = m.1 7 := w_place (by decide)
  have e65 : (ej_w m 6 6 (m.1 6 6 + 1)).1 6 5 = m.1 6 5 := w_other (by omega)
  have hXR : XR P 8 k ρ (b + 1) (ej_w m 6 6 (m.1 6 6 + 1)) := ⟨LX_congr (by rw [w_place (by decide)]) (fun j _ => by rw [w_place (by decide)]) hX, CB_N hC0 k, hb, by omega, ⟨8, ar_8, hk⟩, fun q hq => ⟨by rw [w_place (by decide)]; exact (hρ q hq).1, by have := (hρ q hq).2; omega⟩⟩
  refine wp_bind (wp_mono (x_all hXR (by decide)) fun q hq => ?_)
  obtain ⟨q1, q2, q3⟩ := hq
  rw [e7, e65] at q1
  have hs1 : oj_sm sXL m q.2 := sm_trans hs0 (sm_mono q2 fun a j x => Or.inl x)
  have e66 : q.2.1 6 6 = m.1 6 6 + 1 := by rw [q2.2 6 6 (by unfold XC; omega), w_same]
  have e67 : q.2.1 6 7 = m.1 6 7 := by rw [q2.2 6 7 (by unfold XC; omega), w_other (by omega)]
  rw [q1]
  by_cases hl : lwA (lw P (m.1 7) (m.1 6 5) ρ k) k = true
  · rw [if_pos hl, if_neg i10]
    exact wp_some ⟨hs1, e66, by rw [if_pos hl]; exact e67, CN_B q3⟩
  · rw [if_neg hl, if_pos rfl, o_bs]
    refine wp_some ⟨sm_trans hs1 (sm_w (by unfold sXL; omega)), ?_, ?_, ?_⟩
    · simp only; rw [w_other (by omega)]; exact e66
    · simp only; rw [w_same, e67, if_neg hl]
    · exact CB_congr (CN_B q3) (fun i _ => by rw [w_place (by decide)]) (w_other (by omega)) (w_other (by omega)) (fun i _ => by rw [w_place (by decide)])
theorem m_rowL {P : Option (List (List Int32 × List Int32))} {k : Nat} {ρ : Nat → Nat} {m : ej_M} (hL : LM P m) (hm : m.1 41 4 = nI k) (hk : k ≤ 8) (hρ : ∀ q, q < k → m.1 43 q = nI (ρ q) ∧ ρ q < 8) : oj_wp (f_X11_isRowLawful m) fun q => q.1 = (if lwA (lw P (m.1 42) (m.1 41 5) ρ k) k then 1 else 0) ∧ oj_sm SE m q.2 := by
  unfold f_X11_isRowLawful
  refine wp_bind (wp_mono (m_see hL hm hk hρ) fun r hr => ?_)
  refine wp_bind (wp_mono (m_all hr.2) fun q hq => ?_)
  rw [SE_42 hr.1, SE_415 hr.1] at hq
  rw [hq.1]
  have : oj_sm SE m q.2 := sm_trans hr.1 (sm_mono hq.2 fun a j x => by unfold MC at x; unfold SE; omega)
  by_cases e : lwA (lw P (m.1 42) (m.1 41 5) ρ k) k = true
  · rw [if_pos e]; exact wp_eq (rz_1 q.2) ⟨rfl, this⟩
  · rw [if_neg e]; exact wp_eq (rz_0 q.2) ⟨rfl, this⟩
theorem m_lead {P : Option (List (List Int32 × List Int32))} {k : Nat} {ρ : Nat → Nat} {m : ej_M} (hL : LM P m) (hm : m.1 41 4 = nI k) (hk : k ≤ 8) (hρ : ∀ q, q < k → m.1 43 q = nI (ρ q) ∧ ρ q < 8) : oj_wp (f_X11_lead m) fun q => oj_sm sML m q.2 ∧ q.2.1 41 6 = m.1 41 6 + 1 ∧ q.2.1 41 7 = (if lwA (lw P (m.1 42) (m.1 41 5) ρ k) k then m.1 41 7 else m.1 41 7 + 1) := by
  unfold f_X11_lead oj_pf
  rw [o_bs]
  have hs0 : oj_sm sML m (ej_w m 41 6 (m.1 41 6 + 1)) := sm_w (by unfold sML; omega)
  have e42 : (ej_w m 41 6 (m.1 41 6 + 1)).1 42 = m.1 42 := w_place (by decide)
  have e65 : (ej_w m 41 6 (m.1 41 6 + 1)).1 41 5 = m.1 41 5 := w_other (by omega)
  refine wp_bind (wp_mono (m_rowL (P := P) (k := k) (ρ := ρ) (LM_congr (w_other (by omega)) (w_place (by decide)) (w_place (by decide)) (w_place (by decide)) (w_place (by decide)) (w_place (by decide)) hL) (by rw [w_other (by omega)]; exact hm) hk (fun q hq => by rw [w_place (by decide)]; exact hρ q hq)) fun q hq => ?_)
  obtain ⟨q1, q2⟩ := hq
  rw [e42, e65] at q1
  have hs1 : oj_sm sML m q.2 := sm_trans hs0 (sm_mono q2 fun a j x => Or.inl x)
  have e66 : q.2.1 41 6 = m.1 41 6 + 1 := by rw [q2.2 41 6 (by unfold SE; omega), w_same]
  have e67 : q.2.1 41 7 = m.1 41 7 := by rw [q2.2 41 7 (by unfold SE; omega), w_other (by omega)]
  rw [q1]
  by_cases hl : lwA (lw P (m.1 42) (m.1 41 5) ρ k) k = true
  · rw [if_pos hl, if_neg i10]
    exact wp_some ⟨hs1, e66, by rw [if_pos hl]; exact e67⟩
  · rw [if_neg hl, if_pos rfl, o_bs]
    refine wp_some ⟨sm_trans hs1 (sm_w (by unfold sML; omega)), ?_, ?_⟩
    · simp only; rw [w_other (by omega)]; exact e66
    · simp only; rw [w_same, e67, if_neg hl]
/-- both sides have a new row, then lead -/
theorem both_lead {L : Nat} {xs : Nat → Int32} {n k k' b : Nat} {ρ ρ' : Nat → Nat} {P : Option (List (List Int32 × List Int32))} {nb : Nat} {m m1 m2 m3 m4 : ej_M} (hI : IV L xs n k ρ P nb m) (hk : k' ≤ n)
    (a1 : oj_sm (fun a j => a = 8 ∨ (a = 6 ∧ j = 4)) m m1) (r1 : m1.1 6 4 = nI k') (r2 : ∀ p, p < k' → m1.1 8 p = nI (ρ' p) ∧ ρ' p < n) (hj : ∀ p q, p < k' → q < k' → ρ' p = ρ' q → p = q)
    (a2 : oj_sm sXL m1 m2) (l1 : m2.1 6 6 = m1.1 6 6 + 1) (l2 : m2.1 6 7 = (if lwA (lw P (m1.1 7) (m1.1 6 5) ρ' k') k' then m1.1 6 7 else m1.1 6 7 + 1)) (hC : CB P b m2)
    (a3 : oj_sm (fun a j => a = 43 ∨ (a = 41 ∧ j = 4) ∨ SE a j) m2 m3) (r3 : m3.1 41 4 = nI k') (r4 : ∀ p, p < k' → m3.1 43 p = nI (ρ' p))
    (a4 : oj_sm sML m3 m4) (l3 : m4.1 41 6 = m3.1 41 6 + 1) (l4 : m4.1 41 7 = (if lwA (lw P (m3.1 42) (m3.1 41 5) ρ' k') k' then m3.1 41 7 else m3.1 41 7 + 1)) : IV L xs n k' ρ' P nb m4 ∧ CB P b m4 := by
  obtain ⟨h1, h2, h3, h4, h5, h6, h7, h8, h9, h10, h11, h12, h13, h14, h15⟩ := id hI.1
  have e67 : ∀ j, (j = 6 ∨ j = 7) → m3.1 41 j = m.1 41 j := fun j hj => by
    rw [a3.2 41 j (by unfold SE; omega), a2.2 41 j (by unfold sXL XC; omega), a1.2 41 j (by omega)]
  have f67 : ∀ j, (j = 6 ∨ j = 7) → m1.1 6 j = m.1 6 j := fun j hj => a1.2 6 j (by omega)
  have g67 : ∀ j, (j = 6 ∨ j = 7 ∨ j = 4) → m4.1 6 j = m2.1 6 j := fun j hj => by
    rw [a4.2 6 j (by unfold sML SE; omega), a3.2 6 j (by unfold SE; omega)]
  have hlw : lwA (lw P (m3.1 42) (m3.1 41 5) ρ' k') k' = lwA (lw P (m1.1 7) (m1.1 6 5) ρ' k') k' := by
    have e5 : m3.1 41 5 = m1.1 6 5 := by
      rw [a3.2 41 5 (by unfold SE; omega), a2.2 41 5 (by unfold sXL XC; omega), a1.2 41 5 (by omega), h10, a1.2 6 5 (by omega)]
    rw [e5]
    refine lwA_congr fun p hp => lw_congr hp fun q hq => ⟨rfl, ?_⟩
    rw [a3.2 42 _ (by unfold SE; omega), a2.2 42 _ (by unfold sXL XC; omega), a1.2 42 _ (by omega), a1.2 7 _ (by omega)]
    exact (h7 _ (r2 q hq).2).1
  refine ⟨IV_row hI (sm_trans (sm_trans (sm_trans (sm_mono a1 fun a j q => ?_) (sm_mono a2 fun a j q => ?_)) (sm_mono a3 fun a j q => ?_)) (sm_mono a4 fun a j q => ?_)) hk ?_ ?_ (fun p hp => ?_) hj ?_ ?_, CB_congr hC (fun i _ => ?_) ?_ ?_ (fun i _ => ?_)⟩
  · exact Or.inl (by unfold sRW; omega)
  · rcases q with q | q
    · exact Or.inr (Or.inl (XC_SX q))
    · exact Or.inl (by unfold sRW; omega)
  · rcases q with q | q | q
    · exact Or.inl (by unfold sRW; omega)
    · exact Or.inl (by unfold sRW; omega)
    · exact Or.inr (Or.inr (SE_SM q))
  · rcases q with q | q
    · exact Or.inr (Or.inr (SE_SM q))
    · exact Or.inl (by unfold sRW; omega)
  · rw [g67 4 (by omega), a2.2 6 4 (by unfold sXL XC; omega)]; exact r1
  · rw [a4.2 41 4 (by unfold sML SE; omega)]; exact r3
  · refine ⟨?_, ?_, (r2 p hp).2⟩
    · rw [a4.2 8 p (by unfold sML SE; omega), a3.2 8 p (by unfold SE; omega), a2.2 8 p (by unfold sXL XC; omega)]; exact (r2 p hp).1
    · rw [a4.2 43 p (by unfold sML SE; omega)]; exact r4 p hp
  · rw [l3, g67 6 (by omega), l1, e67 6 (by omega), f67 6 (by omega), h12]
  · rw [l4, g67 7 (by omega), l2, hlw, e67 7 (by omega), f67 7 (by omega), h13]
  · rw [a4.2 10 i (by unfold sML SE; omega), a3.2 10 i (by unfold SE; omega)]
  · rw [a4.2 6 14 (by unfold sML SE; omega), a3.2 6 14 (by unfold SE; omega)]
  · rw [a4.2 6 15 (by unfold sML SE; omega), a3.2 6 15 (by unfold SE; omega)]
  · rw [a4.2 7 i (by unfold sML SE; omega), a3.2 7 i (by unfold SE; omega)]
