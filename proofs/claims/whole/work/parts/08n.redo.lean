/-! redo -/
theorem op_redo : OP f_X10_redo f_X11_redo := by
  intro L xs b m ⟨n, k, ρ, P, nb, hI, hC⟩ hb
  obtain ⟨d, u, c1, c2, c3, c4, c5, c6⟩ := hI.2.2.1
  obtain ⟨h1, h2, h3, h4, h5, h6, h7, h8, h9, h10, h11, h12, h13, h14, h15⟩ := id hI.1
  by_cases hd : u = 0
  · have hx : f_X10_redo m = some (-5, m) := by
      unfold f_X10_redo f_X1_redoNext
      rw [c2, c4, hd, if_pos (show nI d = nI (d + 0) from rfl)]; rfl
    have hm : f_X11_redo m = some (-5, m) := by
      unfold f_X11_redo
      rw [c5, hd, if_pos (show nI 0 = 0 from rfl)]
    rw [hx]
    refine wp_some ⟨⟨rfl, rfl⟩, ?_⟩
    rw [hm]
    exact wp_some ⟨rfl, n, k, ρ, P, nb, hI, CB_step hC⟩
  · have hx : f_X10_redo m = (f_X1_become (m.1 12 d) (m.1 14 d) m).bind fun q4 => some ((ej_w q4.2 11 4 (q4.2.1 11 4 + 1)).1 11 5 - (ej_w q4.2 11 4 (q4.2.1 11 4 + 1)).1 11 4, ej_w q4.2 11 4 (q4.2.1 11 4 + 1)) := by
      unfold f_X10_redo f_X1_redoNext oj_pf
      rw [c2, c4, if_neg (fun e => by have := nI_inj (by omega) (by omega) e; omega), p_at1 ar_12 (by omega), o_bs]
      simp only
      rw [c2, p_at1 ar_14 (by omega), o_bs]
      simp only
      rcases f_X1_become (m.1 12 d) (m.1 14 d) m with _ | q
      · rfl
      · rfl
    have hm : ∀ m', m'.1 41 8 = nI d → m'.1 41 9 = nI u → f_X11_redo m' = (f_X11_lays (m'.1 44 d) (m'.1 45 d) (m'.1 47 d) m').bind fun q4 => some ((ej_w (ej_w q4.2 41 8 (q4.2.1 41 8 + 1)) 41 9 ((ej_w q4.2 41 8 (q4.2.1 41 8 + 1)).1 41 9 - 1)).1 41 9, ej_w (ej_w q4.2 41 8 (q4.2.1 41 8 + 1)) 41 9 ((ej_w q4.2 41 8 (q4.2.1 41 8 + 1)).1 41 9 - 1)) := fun m' g1 g2 => by
      unfold f_X11_redo oj_pf
      rw [g2, if_neg (fun e => hd ((nI_eq0 (by omega)).mp e)), g1, oj_ar_ld ar_44 (by omega), o_bs, oj_ar_ld ar_45 (by omega), o_bs, oj_ar_ld ar_47 (by omega), o_bs]
      rfl
    obtain ⟨e1, e2, e3⟩ := c6 d (by omega)
    have hIC : ∀ m', (∀ a j, (a = 12 ∨ a = 13 ∨ a = 14 ∨ a = 44 ∨ a = 45 ∨ a = 46 ∨ a = 47 ∨ (a = 11 ∧ j = 5)) → m'.1 a j = m.1 a j) → m'.1 11 4 = nI (d + 1) → m'.1 41 8 = nI (d + 1) → m'.1 41 9 = nI (u - 1) → IC n m' := fun m' g g1 g2 g3 => by
      refine ⟨d + 1, u - 1, by omega, g1, g2, ?_, g3, fun i hi => ?_⟩
      · rw [g 11 5 (by omega), c4]; congr 1; omega
      · rw [g 46 i (by omega), g 13 i (by omega), g 47 i (by omega), g 14 i (by omega), g 12 i (by omega), g 44 i (by omega), g 45 i (by omega)]
        exact c6 i (by omega)
    have hval : nI (d + u) - nI (d + 1) = nI (u - 1) := by rw [nI_sub (by omega)]; congr 1; omega
    rw [hx]
    rcases e3 with ⟨a1, a2, a3, a4, a5⟩ | ⟨s, v, w, a1, a2, a3, a4, a5, a6, a7, a8, a9, a10⟩
    · rw [a1, x_ring, o_bs]
      simp only [ej_w_rd, upd_rd, reduceIte, Nat.reduceEqDiff]
      rw [c2, c4, nI_1, hval]
      refine wp_some ⟨⟨?_, ?_⟩, ?_⟩
      · simp only [ej_w_rd, reduceIte, Nat.reduceEqDiff]
      · simp only [ej_w_rd, reduceIte, Nat.reduceEqDiff]
      rw [hm _ (by simp only [ej_w_rd, reduceIte, Nat.reduceEqDiff]; exact c3) (by simp only [ej_w_rd, reduceIte, Nat.reduceEqDiff]; exact c5)]
      simp only [ej_w_rd, reduceIte, Nat.reduceEqDiff]
      rw [a2, e2, m_ring, o_bs]
      simp only [ej_w_rd, upd_rd, reduceIte, Nat.reduceEqDiff]
      rw [c3, c5, nI_1, nI_m1 (by omega)]
      refine wp_some ⟨rfl, n, k, ρ, P, nb, IV_change hI ?_ (hIC _ (fun a j h => ?_) ?_ ?_ ?_) ?_ ?_ (fun i hi => ?_), ?_⟩
      · refine sm_trans (sm_trans (sm_trans (sm_trans (sm_w ?_) (sm_w ?_)) (sm_w ?_)) (sm_w ?_)) (sm_w ?_) <;> · unfold sCH sIC; omega
      · rw [w_other (by omega), w_other (by omega), w_other (by omega), w_other (by omega), w_other (by omega)]
      · simp only [ej_w_rd, upd_rd, reduceIte, Nat.reduceEqDiff]
      · simp only [ej_w_rd, upd_rd, reduceIte, Nat.reduceEqDiff]
      · simp only [ej_w_rd, upd_rd, reduceIte, Nat.reduceEqDiff]
      · simp only [ej_w_rd, upd_rd, reduceIte, Nat.reduceEqDiff]
      · simp only [ej_w_rd, upd_rd, reduceIte, Nat.reduceEqDiff]; exact a5
      · simp only [ej_w_rd, reduceIte, Nat.reduceEqDiff]; exact h7 i hi
      · refine CB_congr (CB_step hC) (fun i _ => ?_) ?_ ?_ (fun i _ => ?_) <;> simp only [ej_w_rd, upd_rd, reduceIte, Nat.reduceEqDiff]
    · rw [a2, x_wt (by omega), o_bs]
      unfold x_wm
      simp only [oj_row_rd, ej_w_rd, upd_rd, reduceIte, Nat.reduceEqDiff]
      rw [c2, c4, nI_1, hval]
      refine wp_some ⟨⟨?_, ?_⟩, ?_⟩
      · simp only [oj_row_rd, ej_w_rd, reduceIte, Nat.reduceEqDiff]
      · simp only [oj_row_rd, ej_w_rd, reduceIte, Nat.reduceEqDiff]
      rw [hm _ (by simp only [oj_row_rd, ej_w_rd, reduceIte, Nat.reduceEqDiff]; exact c3) (by simp only [oj_row_rd, ej_w_rd, reduceIte, Nat.reduceEqDiff]; exact c5)]
      simp only [oj_row_rd, ej_w_rd, upd_rd, reduceIte, Nat.reduceEqDiff]
      rw [a3, a4, e2, m_wt (by omega), o_bs]
      simp only [oj_row_rd, ej_w_rd, upd_rd, reduceIte, Nat.reduceEqDiff]
      rw [c3, c5, nI_1, nI_m1 (by omega)]
      refine wp_some ⟨rfl, n, k, ρ, P, nb, IV_change hI ?_ (hIC _ (fun a j h => ?_) ?_ ?_ ?_) ?_ ?_ (fun i hi => ?_), ?_⟩
      · refine sm_trans (sm_trans (sm_trans (sm_trans (sm_trans (sm_row fun j hj => absurd ?_ hj) (sm_w ?_)) (sm_w ?_)) (sm_row fun j hj => absurd ?_ hj)) (sm_w ?_)) (sm_w ?_) <;> · unfold sCH sIC; omega
      · rw [w_other (by omega), w_other (by omega), oj_row_n (by omega), w_other (by omega), w_other (by omega), oj_row_n (by omega)]
      · simp only [oj_row_rd, ej_w_rd, upd_rd, reduceIte, Nat.reduceEqDiff]
      · simp only [oj_row_rd, ej_w_rd, upd_rd, reduceIte, Nat.reduceEqDiff]
      · simp only [oj_row_rd, ej_w_rd, upd_rd, reduceIte, Nat.reduceEqDiff]
      · simp only [oj_row_rd, ej_w_rd, upd_rd, reduceIte, Nat.reduceEqDiff]; exact h10
      · simp only [oj_row_rd, ej_w_rd, upd_rd, reduceIte, Nat.reduceEqDiff]; exact h11
      · simp only [oj_row_rd, ej_w_rd, upd_rd, reduceIte, Nat.reduceEqDiff]
        by_cases e : i = s
        · rw [if_pos e, if_pos e]; exact ⟨rfl, w, a9, a10, a8⟩
        · rw [if_neg e, if_neg e]; exact h7 i hi
      · have hC1 : CB P (b + 1) (x_wm m s (m.1 14 d)) := CB_weigh hC
        refine CB_le (b := b + 1) (CB_congr hC1 (fun i _ => ?_) ?_ ?_ (fun i _ => ?_)) (by unfold oST; omega)
        all_goals unfold x_wm; simp only [oj_row_rd, ej_w_rd, upd_rd, reduceIte, Nat.reduceEqDiff]
