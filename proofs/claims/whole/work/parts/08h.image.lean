/-! image, back -/
def sIM (a j : Nat) : Prop := sIB a j
theorem pz_1 (m : ej_M) (a j : Nat) : oj_pz m a j 1 = some (ej_w m a j 1) := rfl
theorem x_keep {m : ej_M} {k : Nat} (hm : m.1 6 4 = nI k) (hk : k ≤ 8) : f_X4_keepImage m = some (nI k, ej_w (ej_w (ej_w (ej_w (oj_row m 9 (o_cp k (m.1 8) (m.1 9))) 6 10 (nI k)) 6 11 (m.1 6 6)) 6 12 (m.1 6 7)) 6 8 1) := by
  unfold f_X4_keepImage
  rw [hm, x_copy ar_8 ar_9 (by decide) hk hk (by omega), o_bs]
  unfold oj_pf
  rw [o_bs, o_bs, o_bs, pz_1, o_bs]
  simp only [oj_row_rd, ej_w_rd, upd_rd, reduceIte, Nat.reduceEqDiff]
  rw [hm]
theorem m_keepIm {m : ej_M} {k : Nat} (hm : m.1 41 4 = nI k) (hk : k ≤ 8) : f_X11_image m = some (nI k, oj_row (ej_w (ej_w (ej_w (ej_w m 41 38 1) 41 39 (nI k)) 41 40 (m.1 41 6)) 41 41 (m.1 41 7)) 63 (o_cp k (m.1 43) (m.1 63))) := by
  unfold f_X11_image oj_pf f_X11_image_L31
  rw [pz_1, o_bs, o_bs, o_bs, o_bs]
  simp only [oj_row_rd, ej_w_rd, upd_rd, reduceIte, Nat.reduceEqDiff]
  rw [hm]
  generalize hm2 : ej_w (ej_w (ej_w (ej_w m 41 38 1) 41 39 (nI k)) 41 40 (m.1 41 6)) 41 41 (m.1 41 7) = m2
  have e4 : m2.1 41 4 = nI k := by
    rw [← hm2]
    simp only [oj_row_rd, ej_w_rd, upd_rd, reduceIte, Nat.reduceEqDiff]
    exact hm
  have e43 : m2.1 43 = m.1 43 := by
    rw [← hm2]
    simp only [ej_w_rd, reduceIte, Nat.reduceEqDiff]
  have e63 : m2.1 63 = m.1 63 := by
    rw [← hm2]
    simp only [ej_w_rd, reduceIte, Nat.reduceEqDiff]
  rw [← e43, ← e63]
  refine wp_get (wp_up (fun i => oj_row m2 63 (o_cp i (m2.1 43) (m2.1 63))) (n := k) (i0 := 0) (by omega) (by omega) ?_ (fun i _ hi => ?_) ?_)
  · have : o_cp 0 (m2.1 43) (m2.1 63) = m2.1 63 := funext fun j => if_neg (by omega)
    simp only [this, oj_row_id]
  · simp only
    unfold f_X11_image_L31b
    rw [oj_row_n (by decide), e4, if_neg (fun q => by have := (nI_leI (by omega) (by omega)).mp q; omega), oj_ar_ld ar_43 (by omega), o_bs, oj_ar_st ar_63 (by omega), o_bs, nI_1, oj_row_row, oj_row_s, oj_row_n (by decide)]
    have : upd (o_cp i (m2.1 43) (m2.1 63)) i (m2.1 43 i) = o_cp (i + 1) (m2.1 43) (m2.1 63) := by
      funext j
      unfold upd o_cp
      by_cases e : j = i
      · rw [if_pos e, if_pos (by omega), e]
      · rw [if_neg e]
        by_cases e2 : j < i
        · rw [if_pos e2, if_pos (by omega)]
        · rw [if_neg e2, if_neg (by omega)]
    rw [this]
  · simp only
    unfold f_X11_image_L31b
    rw [oj_row_n (by decide), e4, if_pos (Int32.le_refl _)]
    exact wp_some rfl
theorem op_image : OP f_X10_image f_X11_image := by
  intro L xs b m ⟨n, k, ρ, P, nb, hI, hC⟩ hb
  obtain ⟨hA, hB, hCh, hD, hE, hF, hG⟩ := hI
  obtain ⟨h1, h2, h3, h4, h5, h6, h7, h8, h9, h10, h11, h12, h13, h14, h15⟩ := id hA
  unfold f_X10_image
  rw [x_keep h5 (by omega), o_bs]
  refine wp_some ⟨⟨?_, ?_⟩, ?_⟩
  · simp only [oj_row_rd, ej_w_rd, upd_rd, reduceIte, Nat.reduceEqDiff]
  · simp only [oj_row_rd, ej_w_rd, upd_rd, reduceIte, Nat.reduceEqDiff]
  simp only
  have hs1 : oj_sm sIB m (ej_w (ej_w (ej_w (ej_w (oj_row m 9 (o_cp k (m.1 8) (m.1 9))) 6 10 (nI k)) 6 11 (m.1 6 6)) 6 12 (m.1 6 7)) 6 8 1) := by
    refine sm_trans (sm_trans (sm_trans (sm_trans (sm_row fun j hj => absurd ?_ hj) (sm_w ?_)) (sm_w ?_)) (sm_w ?_)) (sm_w ?_) <;> · unfold sIB; omega
  generalize hX : ej_w (ej_w (ej_w (ej_w (oj_row m 9 (o_cp k (m.1 8) (m.1 9))) 6 10 (nI k)) 6 11 (m.1 6 6)) 6 12 (m.1 6 7)) 6 8 1 = mx at hs1
  have x8 : mx.1 6 8 = 1 := by rw [← hX]; exact w_same
  have x10 : mx.1 6 10 = nI k := by rw [← hX]; simp only [oj_row_rd, ej_w_rd, upd_rd, reduceIte, Nat.reduceEqDiff]
  have x11 : mx.1 6 11 = m.1 6 6 := by rw [← hX]; simp only [oj_row_rd, ej_w_rd, upd_rd, reduceIte, Nat.reduceEqDiff]
  have x12 : mx.1 6 12 = m.1 6 7 := by rw [← hX]; simp only [oj_row_rd, ej_w_rd, upd_rd, reduceIte, Nat.reduceEqDiff]
  have x9 : mx.1 9 = o_cp k (m.1 8) (m.1 9) := by rw [← hX]; simp only [oj_row_rd, ej_w_rd, upd_rd, reduceIte, Nat.reduceEqDiff]
  rw [m_keepIm ((hs1.2 41 4 (by unfold sIB; omega)).trans h6) (by omega)]
  refine wp_some ⟨rfl, ?_⟩
  simp only
  have hs2 : oj_sm sIB mx (oj_row (ej_w (ej_w (ej_w (ej_w mx 41 38 1) 41 39 (nI k)) 41 40 (mx.1 41 6)) 41 41 (mx.1 41 7)) 63 (o_cp k (mx.1 43) (mx.1 63))) := by
    refine sm_trans (sm_trans (sm_trans (sm_trans (sm_w ?_) (sm_w ?_)) (sm_w ?_)) (sm_w ?_)) (sm_row fun j hj => absurd ?_ hj) <;> · unfold sIB; omega
  have hs := sm_trans hs1 hs2
  have y : ∀ a j, ¬ sIB a j → mx.1 a j = m.1 a j := hs1.2
  refine ⟨n, k, ρ, P, nb, ⟨IA_fr (fun a j q => hs.2 a j ?_) hA, ⟨?_, Or.inr ⟨?_, k, ρ, h2, ?_, ?_, fun p hp => ?_, h9, ?_, ?_⟩⟩, IC_fr (Nat.le_refl _) (fun a j q => hs.2 a j ?_) hCh, ID_fr (fun a j q => hs.2 a j ?_) hD, IE_fr (fun a j q => hs.2 a j ?_) hE, IF_fr (Nat.le_refl _) (fun a j q => hs.2 a j ?_) hs.1 hF, IG_fr (fun a j q => hs.2 a j ?_) hG⟩, CB_fr hs (CB_step hC) (fun i => ?_) ?_ ?_ (fun i hi => ?_)⟩
  · unfold sIA at q; unfold sIB; omega
  · simp only [oj_row_rd, ej_w_rd, upd_rd, reduceIte, Nat.reduceEqDiff]; exact x8.symm
  · simp only [oj_row_rd, ej_w_rd, upd_rd, reduceIte, Nat.reduceEqDiff]; exact x8
  · simp only [oj_row_rd, ej_w_rd, upd_rd, reduceIte, Nat.reduceEqDiff]; exact x10
  · simp only [oj_row_rd, ej_w_rd, upd_rd, reduceIte, Nat.reduceEqDiff]
  · simp only [oj_row_rd, ej_w_rd, upd_rd, reduceIte, Nat.reduceEqDiff]
    rw [x9]
    unfold o_cp
    rw [if_pos hp, if_pos hp, y 43 p (by unfold sIB; omega)]
    exact h8 p hp
  · simp only [oj_row_rd, ej_w_rd, upd_rd, reduceIte, Nat.reduceEqDiff]
    rw [x11, y 41 6 (by unfold sIB; omega)]; exact h12
  · simp only [oj_row_rd, ej_w_rd, upd_rd, reduceIte, Nat.reduceEqDiff]
    rw [x12, y 41 7 (by unfold sIB; omega)]; exact h13
  · unfold sIC at q; unfold sIB; omega
  · unfold sID at q; unfold sIB; omega
  · unfold sIE at q; unfold sIB; omega
  · unfold sIF at q; unfold sIB; omega
  · unfold sIB; omega
  · unfold sIB; omega
  · unfold sIB; omega
  · unfold sIB; omega
  · unfold sIB; omega
-- back
theorem x_back {m : ej_M} {k : Nat} (h0 : m.1 6 8 = 1) (hm : m.1 6 10 = nI k) (hk : k ≤ 8) : f_X10_back m = some (nI k, ej_w (ej_w (ej_w (oj_row m 8 (o_cp k (m.1 9) (m.1 8))) 6 4 (nI k)) 6 6 (m.1 6 11)) 6 7 (m.1 6 12)) := by
  unfold f_X10_back f_X4_layBack
  rw [h0, if_neg i10, hm, x_copy ar_9 ar_8 (by decide) hk hk (by omega), o_bs]
  unfold oj_pf
  rw [o_bs, o_bs, o_bs, o_bs]
  simp only [oj_row_rd, ej_w_rd, upd_rd, reduceIte, Nat.reduceEqDiff]
  rw [hm]
theorem m_back {m : ej_M} {k : Nat} (h0 : m.1 41 38 = 1) (hm : m.1 41 39 = nI k) (hk : k ≤ 8) : f_X11_back m = some (nI k, oj_row (ej_w (ej_w (ej_w m 41 4 (nI k)) 41 6 (m.1 41 40)) 41 7 (m.1 41 41)) 43 (o_cp k (m.1 63) (m.1 43))) := by
  unfold f_X11_back oj_pf f_X11_back_L36
  rw [h0, if_neg i10, o_bs, o_bs, o_bs]
  simp only [oj_row_rd, ej_w_rd, upd_rd, reduceIte, Nat.reduceEqDiff]
  rw [hm]
  generalize hm2 : ej_w (ej_w (ej_w m 41 4 (nI k)) 41 6 (m.1 41 40)) 41 7 (m.1 41 41) = m2
  have e4 : m2.1 41 4 = nI k := by
    rw [← hm2]
    simp only [oj_row_rd, ej_w_rd, upd_rd, reduceIte, Nat.reduceEqDiff]
  have e43 : m2.1 43 = m.1 43 := by
    rw [← hm2]
    simp only [ej_w_rd, reduceIte, Nat.reduceEqDiff]
  have e63 : m2.1 63 = m.1 63 := by
    rw [← hm2]
    simp only [ej_w_rd, reduceIte, Nat.reduceEqDiff]
  rw [← e43, ← e63]
  refine wp_get (wp_up (fun i => oj_row m2 43 (o_cp i (m2.1 63) (m2.1 43))) (n := k) (i0 := 0) (by omega) (by omega) ?_ (fun i _ hi => ?_) ?_)
  · have : o_cp 0 (m2.1 63) (m2.1 43) = m2.1 43 := funext fun j => if_neg (by omega)
    simp only [this, oj_row_id]
  · simp only
    unfold f_X11_back_L36b
    rw [oj_row_n (by decide), e4, if_neg (fun q => by have := (nI_leI (by omega) (by omega)).mp q; omega), oj_ar_ld ar_63 (by omega), o_bs, oj_ar_st ar_43 (by omega), o_bs, nI_1, oj_row_row, oj_row_s, oj_row_n (by decide)]
    have : upd (o_cp i (m2.1 63) (m2.1 43)) i (m2.1 63 i) = o_cp (i + 1) (m2.1 63) (m2.1 43) := by
      funext j
      unfold upd o_cp
      by_cases e : j = i
      · rw [if_pos e, if_pos (by omega), e]
      · rw [if_neg e]
        by_cases e2 : j < i
        · rw [if_pos e2, if_pos (by omega)]
        · rw [if_neg e2, if_neg (by omega)]
    rw [this]
  · simp only
    unfold f_X11_back_L36b
    rw [oj_row_n (by decide), e4, if_pos (Int32.le_refl _)]
    exact wp_some rfl
-- a row that changes: what stays
def sRW (a j : Nat) : Prop := (a = 6 ∧ (j = 4 ∨ j = 6 ∨ j = 7)) ∨ a = 8 ∨ (a = 41 ∧ (j = 4 ∨ j = 6 ∨ j = 7)) ∨ a = 43
theorem IV_row {L : Nat} {xs : Nat → Int32} {n k k' : Nat} {ρ ρ' : Nat → Nat} {P : Option (List (List Int32 × List Int32))} {nb : Nat} {m m' : ej_M} (hI : IV L xs n k ρ P nb m) (hs : oj_sm (fun a j => sRW a j ∨ SQ a j) m m') (hk : k' ≤ n) (h6 : m'.1 6 4 = nI k') (h41 : m'.1 41 4 = nI k') (hr : ∀ p, p < k' → m'.1 8 p = nI (ρ' p) ∧ m'.1 43 p = nI (ρ' p) ∧ ρ' p < n) (hj : ∀ p q, p < k' → q < k' → ρ' p = ρ' q → p = q) (e6 : m'.1 41 6 = m'.1 6 6) (e7 : m'.1 41 7 = m'.1 6 7) : IV L xs n k' ρ' P nb m' := by
  obtain ⟨⟨h1, h2, h3, h4, h5, h6', h7, h8, h9, h10, h11, h12, h13, h14, h15⟩, hB, hCh, hD, hE, hF, hG⟩ := hI
  have f : ∀ a, (a = 4 ∨ a = 49 ∨ a = 50 ∨ a = 51 ∨ a = 52 ∨ a = 53) → m'.1 a = m.1 a := fun a ha => funext fun j => hs.2 a j (by unfold sRW SQ SX SM; omega)
  refine ⟨⟨h1, hk, (hs.2 6 2 (by unfold sRW SQ SX SM; omega)).trans h3, (hs.2 41 1 (by unfold sRW SQ SX SM; omega)).trans h4, h6, h41, fun i hi => ?_, hr, hj, ?_, ?_, e6, e7, LX_congr (hs.2 1 6 (by unfold sRW SQ SX SM; omega)) (fun j _ => hs.2 4 j (by unfold sRW SQ SX SM; omega)) h14, LM_congr (hs.2 41 27 (by unfold sRW SQ SX SM; omega)) (f 51 (by omega)) (f 49 (by omega)) (f 50 (by omega)) (f 52 (by omega)) (f 53 (by omega)) h15⟩, IB_fr (Nat.le_refl _) (fun a j q => hs.2 a j ?_) hB, IC_fr (Nat.le_refl _) (fun a j q => hs.2 a j ?_) hCh, ID_fr (fun a j q => hs.2 a j ?_) hD, IE_fr (fun a j q => hs.2 a j ?_) hE, IF_fr (Nat.le_refl _) (fun a j q => hs.2 a j ?_) hs.1 hF, IG_fr (fun a j q => hs.2 a j ?_) hG⟩
  · rw [hs.2 42 i (by unfold sRW SQ SX SM; omega), hs.2 7 i (by unfold sRW SQ SX SM; omega)]; exact h7 i hi
  · rw [hs.2 41 5 (by unfold sRW SQ SX SM; omega), hs.2 6 5 (by unfold sRW SQ SX SM; omega)]; exact h10
  · rw [hs.2 6 5 (by unfold sRW SQ SX SM; omega)]; exact h11
  · unfold sIB at q; unfold sRW SQ SX SM; omega
  · unfold sIC at q; unfold sRW SQ SX SM; omega
  · unfold sID at q; unfold sRW SQ SX SM; omega
  · unfold sIE at q; unfold sRW SQ SX SM; omega
  · unfold sIF at q; unfold sRW SQ SX SM; omega
  · unfold sRW SQ SX SM; omega
theorem op_back : OP f_X10_back f_X11_back := by
  intro L xs b m ⟨n, k, ρ, P, nb, hI, hC⟩ hb
  obtain ⟨b1, b2⟩ := hI.2.1
  have hn := hI.1.1
  rcases b2 with b2 | ⟨b2, k', ρ', c1, c2, c3, c4, c5, c6, c7⟩
  · have hx : f_X10_back m = some (-5, m) := by
      unfold f_X10_back f_X4_layBack
      rw [b2, if_pos rfl]; rfl
    rw [hx]
    refine wp_some ⟨⟨rfl, rfl⟩, ?_⟩
    have hm : f_X11_back m = some (-5, m) := by
      unfold f_X11_back
      rw [b1, b2, if_pos rfl]
    rw [hm]
    exact wp_some ⟨rfl, n, k, ρ, P, nb, hI, CB_step hC⟩
  · rw [x_back b2 c2 (by omega)]
    refine wp_some ⟨⟨?_, ?_⟩, ?_⟩
    · simp only [oj_row_rd, ej_w_rd, upd_rd, reduceIte, Nat.reduceEqDiff]
    · simp only [oj_row_rd, ej_w_rd, upd_rd, reduceIte, Nat.reduceEqDiff]
    simp only
    rw [m_back (k := k') ?_ ?_ (by omega)]
    rotate_left
    · simp only [oj_row_rd, ej_w_rd, upd_rd, reduceIte, Nat.reduceEqDiff]; rw [b1, b2]
    · simp only [oj_row_rd, ej_w_rd, upd_rd, reduceIte, Nat.reduceEqDiff]; exact c3
    refine wp_some ⟨rfl, n, k', ρ', P, nb, IV_row hI ?_ c1 ?_ ?_ (fun p hp => ?_) c5 ?_ ?_, ?_⟩
    · refine sm_trans (sm_trans (sm_trans (sm_trans (sm_trans (sm_trans (sm_trans (sm_row fun j hj => absurd ?_ hj) (sm_w ?_)) (sm_w ?_)) (sm_w ?_)) (sm_w ?_)) (sm_w ?_)) (sm_w ?_)) (sm_row fun j hj => absurd ?_ hj) <;> · unfold sRW; omega
    · simp only [oj_row_rd, ej_w_rd, upd_rd, reduceIte, Nat.reduceEqDiff]
    · simp only [oj_row_rd, ej_w_rd, upd_rd, reduceIte, Nat.reduceEqDiff]
    · simp only [oj_row_rd, ej_w_rd, upd_rd, reduceIte, Nat.reduceEqDiff]
      unfold o_cp
      rw [if_pos hp, if_pos hp]
      exact c4 p hp
    · simp only [oj_row_rd, ej_w_rd, upd_rd, reduceIte, Nat.reduceEqDiff]; exact c6
    · simp only [oj_row_rd, ej_w_rd, upd_rd, reduceIte, Nat.reduceEqDiff]; exact c7
    · refine CB_congr (CB_step hC) (fun i _ => ?_) ?_ ?_ (fun i _ => ?_) <;> simp only [oj_row_rd, ej_w_rd, upd_rd, reduceIte, Nat.reduceEqDiff]
