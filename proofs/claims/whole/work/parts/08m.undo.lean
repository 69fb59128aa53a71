/-! undo, redo -/
def sCH (a j : Nat) : Prop := (a = 6 ∧ (j = 5 ∨ j = 14)) ∨ a = 7 ∨ a = 42 ∨ (a = 41 ∧ j = 5) ∨ sIC a j
theorem IV_change {L : Nat} {xs : Nat → Int32} {n k : Nat} {ρ : Nat → Nat} {P : Option (List (List Int32 × List Int32))} {nb : Nat} {m m' : ej_M} (hI : IV L xs n k ρ P nb m) (hs : oj_sm sCH m m') (hc : IC n m') (hg : m'.1 41 5 = m'.1 6 5) (hg2 : m'.1 6 5 = 0 ∨ m'.1 6 5 = 1) (hw : ∀ i, i < n → m'.1 42 i = m'.1 7 i ∧ ∃ w, 1 ≤ w ∧ w ≤ 99 ∧ m'.1 7 i = nI w) : IV L xs n k ρ P nb m' := by
  obtain ⟨⟨h1, h2, h3, h4, h5, h6', h7, h8, h9, h10, h11, h12, h13, h14, h15⟩, hB, hCh, hD, hE, hF, hG⟩ := hI
  have f : ∀ a, (a = 8 ∨ a = 43 ∨ a = 4 ∨ a = 49 ∨ a = 50 ∨ a = 51 ∨ a = 52 ∨ a = 53) → m'.1 a = m.1 a := fun a ha => funext fun j => hs.2 a j (by unfold sCH sIC; omega)
  refine ⟨⟨h1, h2, (hs.2 6 2 (by unfold sCH sIC; omega)).trans h3, (hs.2 41 1 (by unfold sCH sIC; omega)).trans h4, (hs.2 6 4 (by unfold sCH sIC; omega)).trans h5, (hs.2 41 4 (by unfold sCH sIC; omega)).trans h6', hw, fun p hp => ?_, h9, hg, hg2, ?_, ?_, LX_congr (hs.2 1 6 (by unfold sCH sIC; omega)) (fun j _ => hs.2 4 j (by unfold sCH sIC; omega)) h14, LM_congr (hs.2 41 27 (by unfold sCH sIC; omega)) (f 51 (by omega)) (f 49 (by omega)) (f 50 (by omega)) (f 52 (by omega)) (f 53 (by omega)) h15⟩, IB_fr (Nat.le_refl _) (fun a j q => hs.2 a j ?_) hB, hc, ID_fr (fun a j q => hs.2 a j ?_) hD, IE_fr (fun a j q => hs.2 a j ?_) hE, IF_fr (Nat.le_refl _) (fun a j q => hs.2 a j ?_) hs.1 hF, IG_fr (fun a j q => hs.2 a j ?_) hG⟩
  · rw [f 8 (by omega), f 43 (by omega)]; exact h8 p hp
  · rw [hs.2 41 6 (by unfold sCH sIC; omega), hs.2 6 6 (by unfold sCH sIC; omega)]; exact h12
  · rw [hs.2 41 7 (by unfold sCH sIC; omega), hs.2 6 7 (by unfold sCH sIC; omega)]; exact h13
  · unfold sIB at q; unfold sCH sIC; omega
  · unfold sID at q; unfold sCH sIC; omega
  · unfold sIE at q; unfold sCH sIC; omega
  · unfold sIF at q; unfold sCH sIC; omega
  · unfold sCH sIC; omega
theorem x_ring {m : ej_M} {v : Int32} : f_X1_become (-1) v m = some ((), ej_w m 6 5 v) := by
  unfold f_X1_become oj_pf
  rw [if_pos rfl]; rfl
theorem x_wt {m : ej_M} {s : Nat} {v : Int32} (hs : s < 8) : f_X1_become (nI s) v m = some ((), x_wm m s v) := by
  unfold f_X1_become
  rw [if_neg (fun e => absurd (by rw [e]; decide) (nI_pos (n := s) (by omega))), x_weigh hs]; rfl
theorem m_ring {m : ej_M} {v w : Int32} : f_X11_lays 1 w v m = some ((), ej_w m 41 5 v) := by
  unfold f_X11_lays oj_pf
  rw [if_neg i10]; rfl
theorem m_wt {m : ej_M} {s : Nat} {v : Int32} (hs : s < 8) : f_X11_lays 0 (nI s) v m = some ((), oj_row m 42 (upd (m.1 42) s v)) := by
  unfold f_X11_lays
  rw [if_pos rfl, oj_ar_st ar_42 (by omega)]; rfl
/-- what the class does to a number, and what the reference does, tell the same -/
def CHX (n : Nat) (m m' : ej_M) (c : Int32) (v : Int32) : Prop := (c = -1 ∧ m' = ej_w m 6 5 v ∧ (v = 0 ∨ v = 1)) ∨ ∃ s w, s < n ∧ c = nI s ∧ m' = x_wm m s v ∧ v = nI w ∧ 1 ≤ w ∧ w ≤ 99
theorem op_undo : OP f_X10_undo f_X11_undo := by
  intro L xs b m ⟨n, k, ρ, P, nb, hI, hC⟩ hb
  obtain ⟨d, u, c1, c2, c3, c4, c5, c6⟩ := hI.2.2.1
  obtain ⟨h1, h2, h3, h4, h5, h6, h7, h8, h9, h10, h11, h12, h13, h14, h15⟩ := id hI.1
  by_cases hd : d = 0
  · have hx : f_X10_undo m = some (-5, m) := by
      unfold f_X10_undo f_X1_undoLatest
      rw [c2, hd, if_pos (show nI 0 = 0 from rfl)]; rfl
    have hm : f_X11_undo m = some (-5, m) := by
      unfold f_X11_undo
      rw [c3, hd, if_pos (show nI 0 = 0 from rfl)]
    rw [hx]
    refine wp_some ⟨⟨rfl, rfl⟩, ?_⟩
    rw [hm]
    exact wp_some ⟨rfl, n, k, ρ, P, nb, hI, CB_step hC⟩
  · have hx : f_X10_undo m = (f_X1_become (m.1 12 (d - 1)) (m.1 13 (d - 1)) (ej_w m 11 4 (nI (d - 1)))).bind fun q4 => some (q4.2.1 11 4, q4.2) := by
      unfold f_X10_undo f_X1_undoLatest oj_pf
      rw [c2, if_neg (fun e => hd ((nI_eq0 (by omega)).mp e)), nI_m1 (by omega), o_bs]
      simp only [ej_w_rd, upd_rd, reduceIte, Nat.reduceEqDiff]
      rw [p_at1 ar_12 (by omega), o_bs]
      simp only [ej_w_rd, upd_rd, reduceIte, Nat.reduceEqDiff]
      rw [p_at1 ar_13 (by omega), o_bs]
      simp only [ej_w_rd, upd_rd, reduceIte, Nat.reduceEqDiff]
      rcases f_X1_become (m.1 12 (d - 1)) (m.1 13 (d - 1)) (ej_w m 11 4 (nI (d - 1))) with _ | q
      · rfl
      · rfl
    have hm : ∀ m', m'.1 41 8 = nI d → m'.1 41 9 = nI u → f_X11_undo m' = (f_X11_lays (m'.1 44 (d - 1)) (m'.1 45 (d - 1)) (m'.1 46 (d - 1)) (ej_w (ej_w m' 41 8 (nI (d - 1))) 41 9 (nI (u + 1)))).bind fun q6 => some (q6.2.1 41 8, q6.2) := fun m' g1 g2 => by
      unfold f_X11_undo oj_pf
      rw [g1, if_neg (fun e => hd ((nI_eq0 (by omega)).mp e)), nI_m1 (by omega), o_bs, o_bs, w_other (by omega : ¬ (41 = 41 ∧ 9 = 8)), g2, nI_1, w_other (by omega : ¬ (41 = 41 ∧ 8 = 9)), w_same, oj_ar_ld ar_44 (by omega), o_bs, oj_ar_ld ar_45 (by omega), o_bs, oj_ar_ld ar_46 (by omega), o_bs]
      simp only [ej_w_rd, reduceIte, Nat.reduceEqDiff]
    obtain ⟨e1, e2, e3⟩ := c6 (d - 1) (by omega)
    have hIC : ∀ m', (∀ a j, (a = 12 ∨ a = 13 ∨ a = 14 ∨ a = 44 ∨ a = 45 ∨ a = 46 ∨ a = 47 ∨ (a = 11 ∧ j = 5)) → m'.1 a j = m.1 a j) → m'.1 11 4 = nI (d - 1) → m'.1 41 8 = nI (d - 1) → m'.1 41 9 = nI (u + 1) → IC n m' := fun m' g g1 g2 g3 => by
      refine ⟨d - 1, u + 1, by omega, g1, g2, ?_, g3, fun i hi => ?_⟩
      · rw [g 11 5 (by omega), c4]; congr 1; omega
      · rw [g 46 i (by omega), g 13 i (by omega), g 47 i (by omega), g 14 i (by omega), g 12 i (by omega), g 44 i (by omega), g 45 i (by omega)]
        exact c6 i (by omega)
    rw [hx]
    rcases e3 with ⟨a1, a2, a3, a4, a5⟩ | ⟨s, v, w, a1, a2, a3, a4, a5, a6, a7, a8, a9, a10⟩
    · rw [a1, x_ring, o_bs]
      refine wp_some ⟨⟨?_, ?_⟩, ?_⟩
      · simp only [ej_w_rd, reduceIte, Nat.reduceEqDiff]
      · simp only [ej_w_rd, reduceIte, Nat.reduceEqDiff]
      rw [hm _ (by simp only [ej_w_rd, reduceIte, Nat.reduceEqDiff]; exact c3) (by simp only [ej_w_rd, reduceIte, Nat.reduceEqDiff]; exact c5)]
      simp only [ej_w_rd, reduceIte, Nat.reduceEqDiff]
      rw [a2, e1, m_ring, o_bs]
      refine wp_some ⟨?_, n, k, ρ, P, nb, IV_change hI ?_ (hIC _ (fun a j h => ?_) ?_ ?_ ?_) ?_ ?_ (fun i hi => ?_), ?_⟩
      · simp only [ej_w_rd, upd_rd, reduceIte, Nat.reduceEqDiff]
      · refine sm_trans (sm_trans (sm_trans (sm_trans (sm_w ?_) (sm_w ?_)) (sm_w ?_)) (sm_w ?_)) (sm_w ?_) <;> · unfold sCH sIC; omega
      · rw [w_other (by omega), w_other (by omega), w_other (by omega), w_other (by omega), w_other (by omega)]
      · simp only [ej_w_rd, upd_rd, reduceIte, Nat.reduceEqDiff]
      · simp only [ej_w_rd, upd_rd, reduceIte, Nat.reduceEqDiff]
      · simp only [ej_w_rd, upd_rd, reduceIte, Nat.reduceEqDiff]
      · simp only [ej_w_rd, upd_rd, reduceIte, Nat.reduceEqDiff]
      · simp only [ej_w_rd, upd_rd, reduceIte, Nat.reduceEqDiff]; exact a4
      · simp only [ej_w_rd, reduceIte, Nat.reduceEqDiff]; exact h7 i hi
      · refine CB_congr (CB_step hC) (fun i _ => ?_) ?_ ?_ (fun i _ => ?_) <;> simp only [ej_w_rd, upd_rd, reduceIte, Nat.reduceEqDiff]
    · rw [a2, x_wt (by omega), o_bs]
      unfold x_wm
      refine wp_some ⟨⟨?_, ?_⟩, ?_⟩
      · simp only [oj_row_rd, ej_w_rd, reduceIte, Nat.reduceEqDiff]
      · simp only [oj_row_rd, ej_w_rd, reduceIte, Nat.reduceEqDiff]
      rw [hm _ (by simp only [oj_row_rd, ej_w_rd, reduceIte, Nat.reduceEqDiff]; exact c3) (by simp only [oj_row_rd, ej_w_rd, reduceIte, Nat.reduceEqDiff]; exact c5)]
      simp only [oj_row_rd, ej_w_rd, upd_rd, reduceIte, Nat.reduceEqDiff]
      rw [a3, a4, e1, m_wt (by omega), o_bs]
      refine wp_some ⟨?_, n, k, ρ, P, nb, IV_change hI ?_ (hIC _ (fun a j h => ?_) ?_ ?_ ?_) ?_ ?_ (fun i hi => ?_), ?_⟩
      · simp only [oj_row_rd, ej_w_rd, upd_rd, reduceIte, Nat.reduceEqDiff]
      · refine sm_trans (sm_trans (sm_trans (sm_trans (sm_trans (sm_w ?_) (sm_row fun j hj => absurd ?_ hj)) (sm_w ?_)) (sm_w ?_)) (sm_w ?_)) (sm_row fun j hj => absurd ?_ hj) <;> · unfold sCH sIC; omega
      · rw [oj_row_n (by omega), w_other (by omega), w_other (by omega), w_other (by omega), oj_row_n (by omega), w_other (by omega)]
      · simp only [oj_row_rd, ej_w_rd, upd_rd, reduceIte, Nat.reduceEqDiff]
      · simp only [oj_row_rd, ej_w_rd, upd_rd, reduceIte, Nat.reduceEqDiff]
      · simp only [oj_row_rd, ej_w_rd, upd_rd, reduceIte, Nat.reduceEqDiff]
      · simp only [oj_row_rd, ej_w_rd, upd_rd, reduceIte, Nat.reduceEqDiff]; exact h10
      · simp only [oj_row_rd, ej_w_rd, upd_rd, reduceIte, Nat.reduceEqDiff]; exact h11
      · simp only [oj_row_rd, ej_w_rd, upd_rd, reduceIte, Nat.reduceEqDiff]
        by_cases e : i = s
        · rw [if_pos e, if_pos e]; exact ⟨rfl, v, a6, a7, a5⟩
        · rw [if_neg e, if_neg e]; exact h7 i hi
      · have hC1 : CB P (b + 1) (x_wm m s (m.1 13 (d - 1))) := CB_weigh hC
        refine CB_le (b := b + 1) (CB_congr hC1 (fun i _ => ?_) ?_ ?_ (fun i _ => ?_)) (by unfold oST; omega)
        all_goals unfold x_wm; simp only [oj_row_rd, ej_w_rd, upd_rd, reduceIte, Nat.reduceEqDiff]
