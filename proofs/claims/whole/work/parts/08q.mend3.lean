/-! mend, together -/
theorem op_mendW {s w : Nat} (hw1 : 1 ≤ w) (hw2 : w ≤ 99) {L : Nat} {xs : Nat → Int32} {n k b : Nat} {ρ : Nat → Nat} {P : Option (List (List Int32 × List Int32))} {nb : Nat} {m : ej_M} (hI : IV L xs n k ρ P nb m) (hC : CB P b m) (hs : s < n) :
    oj_wp (f_X1_change (nI s) (nI w) m) fun q => (q.2.1 4000 = m.1 4000 ∧ q.2.1 4001 = m.1 4001) ∧ q.2.1 41 1 = m.1 41 1 ∧ oj_wp (f_X11_changes 0 (nI s) (nI w) q.2) fun r => q.1 = r.1 ∧ Inv L xs (b + oST) r.2 := by
  obtain ⟨d, u, c1, c2, c3, c4, c5, c6⟩ := hI.2.2.1
  obtain ⟨h1, h2, h3, h4, h5, h6, h7, h8, h9, h10, h11, h12, h13, h14, h15⟩ := id hI.1
  obtain ⟨h42, w0, w01, w02, w03⟩ := h7 s hs
  obtain ⟨mb, db, sh, x1, x2, x3, x4, x5, x6⟩ := x_change c2 (by omega) (nI s) (nI w) (m.1 7 s)
  have hval : ∀ m', m'.1 42 s = m.1 42 s → f_X11_valueAt 0 (nI s) m' = some (m.1 7 s, m') := fun m' g => by
    unfold f_X11_valueAt
    rw [if_pos rfl, oj_ar_ld ar_42 (by omega), o_bs, g, h42]
  have hX : f_X1_change (nI s) (nI w) m = f_X1_change_B23 (nI s) (nI w) (m.1 7 s) m := by
    unfold f_X1_change
    rw [if_neg (fun e => absurd (by rw [e]; decide) (nI_pos (n := s) (by omega))), x_weightN (by omega), o_bs]
  rw [hX, x6]
  by_cases e : nI w = m.1 7 s
  · rw [if_pos e]
    refine wp_some ⟨⟨rfl, rfl⟩, rfl, ?_⟩
    obtain ⟨mb2, db2, sh2, y1, y2, y3, y4, y5, y6, y7⟩ := m_change c3 (by omega) 0 (nI s) (nI w) (m.1 7 s) (hval m rfl)
    rw [y7 _ (m_wt (by omega)), if_pos e.symm]
    exact wp_some ⟨rfl, n, k, ρ, P, nb, hI, CB_step hC⟩
  · rw [if_neg e, x_wt (by omega), o_bs]
    have z1 : oj_sm (fun a j => a = 12 ∨ a = 13 ∨ a = 14 ∨ (a = 11 ∧ (j = 4 ∨ j = 5)) ∨ a = 7 ∨ (a = 6 ∧ j = 14)) m (x_wm (x_note mb db (nI s) (m.1 7 s) (nI w)) s (nI w)) := by
      unfold x_wm x_note
      refine sm_trans (sm_trans (sm_trans (sm_trans (sm_trans (sm_trans (sm_trans (sm_trans (sm_mono x4 fun a j q => ?_) (sm_row fun j hj => absurd ?_ hj)) (sm_row fun j hj => absurd ?_ hj)) (sm_row fun j hj => absurd ?_ hj)) (sm_w ?_)) (sm_w ?_)) (sm_row fun j hj => absurd ?_ hj)) (sm_w ?_)) sm_refl <;> omega
    have v4 : (x_wm (x_note mb db (nI s) (m.1 7 s) (nI w)) s (nI w)).1 11 4 = nI (db + 1) := by
      unfold x_wm x_note
      simp only [oj_row_rd, ej_w_rd, upd_rd, reduceIte, Nat.reduceEqDiff]
    have v5 : (x_wm (x_note mb db (nI s) (m.1 7 s) (nI w)) s (nI w)).1 11 5 = nI (db + 1) := by
      unfold x_wm x_note
      simp only [oj_row_rd, ej_w_rd, upd_rd, reduceIte, Nat.reduceEqDiff]
    have v12 : ∀ i, (x_wm (x_note mb db (nI s) (m.1 7 s) (nI w)) s (nI w)).1 12 i = if i = db then nI s else mb.1 12 i := fun i => by
      unfold x_wm x_note
      simp only [oj_row_rd, ej_w_rd, upd_rd, reduceIte, Nat.reduceEqDiff]
    have v13 : ∀ i, (x_wm (x_note mb db (nI s) (m.1 7 s) (nI w)) s (nI w)).1 13 i = if i = db then m.1 7 s else mb.1 13 i := fun i => by
      unfold x_wm x_note
      simp only [oj_row_rd, ej_w_rd, upd_rd, reduceIte, Nat.reduceEqDiff]
    have v14 : ∀ i, (x_wm (x_note mb db (nI s) (m.1 7 s) (nI w)) s (nI w)).1 14 i = if i = db then nI w else mb.1 14 i := fun i => by
      unfold x_wm x_note
      simp only [oj_row_rd, ej_w_rd, upd_rd, reduceIte, Nat.reduceEqDiff]
    have v7 : ∀ i, (x_wm (x_note mb db (nI s) (m.1 7 s) (nI w)) s (nI w)).1 7 i = if i = s then nI w else m.1 7 i := fun i => by
      unfold x_wm x_note
      simp only [oj_row_rd, ej_w_rd, upd_rd, reduceIte, Nat.reduceEqDiff]
      rw [x4.2 7 i (by omega)]
    have vC : CB P (b + 1) (x_wm (x_note mb db (nI s) (m.1 7 s) (nI w)) s (nI w)) := by
      refine CB_weigh (CB_congr (CB_fr x4 hC (by omega) (by omega) (by omega) (by omega)) (fun i _ => ?_) ?_ ?_ (fun i _ => ?_))
      all_goals unfold x_note; simp only [oj_row_rd, ej_w_rd, upd_rd, reduceIte, Nat.reduceEqDiff]
    generalize x_wm (x_note mb db (nI s) (m.1 7 s) (nI w)) s (nI w) = mx at *
    refine wp_some ⟨⟨funext fun j => z1.2 4000 j (by omega), funext fun j => z1.2 4001 j (by omega)⟩, z1.2 41 1 (by omega), ?_⟩
    simp only
    obtain ⟨mb2, db2, sh2, y1, y2, y3, y4, y5, y6, y7⟩ := m_change (m := mx) (d := d) (by rw [z1.2 41 8 (by omega)]; exact c3) (by omega) 0 (nI s) (nI w) (m.1 7 s) (hval mx (z1.2 42 s (by omega)))
    rw [y7 _ (m_wt (by omega)), if_neg (fun q => e q.symm)]
    have hsh : sh2 = sh := by rw [x3, y3]
    have hdb : db2 = db := by omega
    subst hsh
    subst hdb
    have hs2 : oj_sm (fun a j => a = 44 ∨ a = 45 ∨ a = 46 ∨ a = 47 ∨ a = 42 ∨ (a = 41 ∧ (j = 8 ∨ j = 9))) mx (oj_row (m_note mb2 db2 0 (nI s) (m.1 7 s) (nI w)) 42 (upd ((m_note mb2 db2 0 (nI s) (m.1 7 s) (nI w)).1 42) s (nI w))) := by
      unfold m_note
      refine sm_trans (sm_trans (sm_trans (sm_trans (sm_trans (sm_trans (sm_mono y4 fun a j q => ?_) (sm_row fun j hj => absurd ?_ hj)) (sm_row fun j hj => absurd ?_ hj)) (sm_row fun j hj => absurd ?_ hj)) (sm_row fun j hj => absurd ?_ hj)) (sm_w ?_)) (sm_row fun j hj => absurd ?_ hj) <;> omega
    have u42 : ∀ i, (oj_row (m_note mb2 db2 0 (nI s) (m.1 7 s) (nI w)) 42 (upd ((m_note mb2 db2 0 (nI s) (m.1 7 s) (nI w)).1 42) s (nI w))).1 42 i = if i = s then nI w else mb2.1 42 i := fun i => by
      unfold m_note
      simp only [oj_row_rd, ej_w_rd, upd_rd, reduceIte, Nat.reduceEqDiff]
    have u44 : ∀ i, (oj_row (m_note mb2 db2 0 (nI s) (m.1 7 s) (nI w)) 42 (upd ((m_note mb2 db2 0 (nI s) (m.1 7 s) (nI w)).1 42) s (nI w))).1 44 i = if i = db2 then 0 else mb2.1 44 i := fun i => by
      unfold m_note
      simp only [oj_row_rd, ej_w_rd, upd_rd, reduceIte, Nat.reduceEqDiff]
    have u45 : ∀ i, (oj_row (m_note mb2 db2 0 (nI s) (m.1 7 s) (nI w)) 42 (upd ((m_note mb2 db2 0 (nI s) (m.1 7 s) (nI w)).1 42) s (nI w))).1 45 i = if i = db2 then nI s else mb2.1 45 i := fun i => by
      unfold m_note
      simp only [oj_row_rd, ej_w_rd, upd_rd, reduceIte, Nat.reduceEqDiff]
    have u46 : ∀ i, (oj_row (m_note mb2 db2 0 (nI s) (m.1 7 s) (nI w)) 42 (upd ((m_note mb2 db2 0 (nI s) (m.1 7 s) (nI w)).1 42) s (nI w))).1 46 i = if i = db2 then m.1 7 s else mb2.1 46 i := fun i => by
      unfold m_note
      simp only [oj_row_rd, ej_w_rd, upd_rd, reduceIte, Nat.reduceEqDiff]
    have u47 : ∀ i, (oj_row (m_note mb2 db2 0 (nI s) (m.1 7 s) (nI w)) 42 (upd ((m_note mb2 db2 0 (nI s) (m.1 7 s) (nI w)).1 42) s (nI w))).1 47 i = if i = db2 then nI w else mb2.1 47 i := fun i => by
      unfold m_note
      simp only [oj_row_rd, ej_w_rd, upd_rd, reduceIte, Nat.reduceEqDiff]
    have u8 : (oj_row (m_note mb2 db2 0 (nI s) (m.1 7 s) (nI w)) 42 (upd ((m_note mb2 db2 0 (nI s) (m.1 7 s) (nI w)).1 42) s (nI w))).1 41 8 = nI (db2 + 1) := by
      unfold m_note
      simp only [oj_row_rd, ej_w_rd, upd_rd, reduceIte, Nat.reduceEqDiff]
    have u9 : (oj_row (m_note mb2 db2 0 (nI s) (m.1 7 s) (nI w)) 42 (upd ((m_note mb2 db2 0 (nI s) (m.1 7 s) (nI w)).1 42) s (nI w))).1 41 9 = 0 := by
      unfold m_note
      simp only [oj_row_rd, ej_w_rd, upd_rd, reduceIte, Nat.reduceEqDiff]
      exact y5
    generalize oj_row (m_note mb2 db2 0 (nI s) (m.1 7 s) (nI w)) 42 (upd ((m_note mb2 db2 0 (nI s) (m.1 7 s) (nI w)).1 42) s (nI w)) = my at *
    refine wp_some ⟨rfl, n, k, ρ, P, nb, IV_change hI (sm_trans (sm_mono z1 fun a j q => ?_) (sm_mono hs2 fun a j q => ?_)) (IC_new (fun i hi => c6 i (by omega)) y1 y2 ((hs2.2 11 4 (by omega)).trans v4) ((hs2.2 11 5 (by omega)).trans v5) u8 u9 (fun i hi => ?_) ?_) ?_ ?_ (fun i hi => ?_), ?_⟩
    · unfold sCH sIC; omega
    · unfold sCH sIC; omega
    · obtain ⟨p1, p2, p3⟩ := x5 i hi
      obtain ⟨p4, p5, p6, p7⟩ := y6 i hi
      have ne : i ≠ db2 := by omega
      refine ⟨?_, ?_, ?_, ?_, ?_, ?_, ?_⟩
      · rw [hs2.2 12 i (by omega), v12, if_neg ne]; exact p1
      · rw [hs2.2 13 i (by omega), v13, if_neg ne]; exact p2
      · rw [hs2.2 14 i (by omega), v14, if_neg ne]; exact p3
      · rw [u44, if_neg ne, p4]; exact z1.2 44 _ (by omega)
      · rw [u45, if_neg ne, p5]; exact z1.2 45 _ (by omega)
      · rw [u46, if_neg ne, p6]; exact z1.2 46 _ (by omega)
      · rw [u47, if_neg ne, p7]; exact z1.2 47 _ (by omega)
    · rw [u46, if_pos rfl, hs2.2 13 db2 (by omega), v13, if_pos rfl, u47, if_pos rfl, hs2.2 14 db2 (by omega), v14, if_pos rfl, hs2.2 12 db2 (by omega), v12, if_pos rfl, u44, if_pos rfl, u45, if_pos rfl]
      exact ⟨rfl, rfl, Or.inr ⟨s, w0, w, hs, rfl, rfl, rfl, w03, w01, w02, rfl, hw1, hw2⟩⟩
    · rw [hs2.2 41 5 (by omega), z1.2 41 5 (by omega), hs2.2 6 5 (by omega), z1.2 6 5 (by omega)]; exact h10
    · rw [hs2.2 6 5 (by omega), z1.2 6 5 (by omega)]; exact h11
    · rw [u42, hs2.2 7 i (by omega), v7]
      by_cases e2 : i = s
      · rw [if_pos e2, if_pos e2]; exact ⟨rfl, w, hw1, hw2, rfl⟩
      · rw [if_neg e2, if_neg e2, y4.2 42 i (by omega), z1.2 42 i (by omega)]; exact h7 i hi
    · exact CB_le (CB_fr hs2 vC (fun i => by omega) (by omega) (by omega) (fun i hi => by omega)) (by unfold oST; omega)
theorem op_mendR {v : Int32} (hv : v = 0 ∨ v = 1) {L : Nat} {xs : Nat → Int32} {n k b : Nat} {ρ : Nat → Nat} {P : Option (List (List Int32 × List Int32))} {nb : Nat} {m : ej_M} (hI : IV L xs n k ρ P nb m) (hC : CB P b m) :
    oj_wp (f_X1_change (-1) v m) fun q => (q.2.1 4000 = m.1 4000 ∧ q.2.1 4001 = m.1 4001) ∧ q.2.1 41 1 = m.1 41 1 ∧ oj_wp (f_X11_changes 1 0 v q.2) fun r => q.1 = r.1 ∧ Inv L xs (b + oST) r.2 := by
  obtain ⟨d, u, c1, c2, c3, c4, c5, c6⟩ := hI.2.2.1
  obtain ⟨h1, h2, h3, h4, h5, h6, h7, h8, h9, h10, h11, h12, h13, h14, h15⟩ := id hI.1
  obtain ⟨mb, db, sh, x1, x2, x3, x4, x5, x6⟩ := x_change c2 (by omega) (-1) v (m.1 6 5)
  have hval : ∀ m', m'.1 41 5 = m.1 41 5 → f_X11_valueAt 1 0 m' = some (m.1 6 5, m') := fun m' g => by
    unfold f_X11_valueAt
    rw [if_neg i10, g, h10]
  have hX : f_X1_change (-1) v m = f_X1_change_B23 (-1) v (m.1 6 5) m := by
    unfold f_X1_change
    rw [if_pos rfl]
  rw [hX, x6]
  by_cases e : v = m.1 6 5
  · rw [if_pos e]
    refine wp_some ⟨⟨rfl, rfl⟩, rfl, ?_⟩
    obtain ⟨mb2, db2, sh2, y1, y2, y3, y4, y5, y6, y7⟩ := m_change c3 (by omega) 1 0 v (m.1 6 5) (hval m rfl)
    rw [y7 _ m_ring, if_pos e.symm]
    exact wp_some ⟨rfl, n, k, ρ, P, nb, hI, CB_step hC⟩
  · rw [if_neg e, x_ring, o_bs]
    have z1 : oj_sm (fun a j => a = 12 ∨ a = 13 ∨ a = 14 ∨ (a = 11 ∧ (j = 4 ∨ j = 5)) ∨ (a = 6 ∧ j = 5)) m (ej_w (x_note mb db (-1) (m.1 6 5) v) 6 5 v) := by
      unfold x_note
      refine sm_trans (sm_trans (sm_trans (sm_trans (sm_trans (sm_trans (sm_mono x4 fun a j q => ?_) (sm_row fun j hj => absurd ?_ hj)) (sm_row fun j hj => absurd ?_ hj)) (sm_row fun j hj => absurd ?_ hj)) (sm_w ?_)) (sm_w ?_)) (sm_w ?_) <;> omega
    have v4 : (ej_w (x_note mb db (-1) (m.1 6 5) v) 6 5 v).1 11 4 = nI (db + 1) := by
      unfold x_note
      simp only [oj_row_rd, ej_w_rd, upd_rd, reduceIte, Nat.reduceEqDiff]
    have v5 : (ej_w (x_note mb db (-1) (m.1 6 5) v) 6 5 v).1 11 5 = nI (db + 1) := by
      unfold x_note
      simp only [oj_row_rd, ej_w_rd, upd_rd, reduceIte, Nat.reduceEqDiff]
    have v12 : ∀ i, (ej_w (x_note mb db (-1) (m.1 6 5) v) 6 5 v).1 12 i = if i = db then (-1) else mb.1 12 i := fun i => by
      unfold x_note
      simp only [oj_row_rd, ej_w_rd, upd_rd, reduceIte, Nat.reduceEqDiff]
    have v13 : ∀ i, (ej_w (x_note mb db (-1) (m.1 6 5) v) 6 5 v).1 13 i = if i = db then m.1 6 5 else mb.1 13 i := fun i => by
      unfold x_note
      simp only [oj_row_rd, ej_w_rd, upd_rd, reduceIte, Nat.reduceEqDiff]
    have v14 : ∀ i, (ej_w (x_note mb db (-1) (m.1 6 5) v) 6 5 v).1 14 i = if i = db then v else mb.1 14 i := fun i => by
      unfold x_note
      simp only [oj_row_rd, ej_w_rd, upd_rd, reduceIte, Nat.reduceEqDiff]
    have v7 : (ej_w (x_note mb db (-1) (m.1 6 5) v) 6 5 v).1 6 5 = v := w_same
    have vC : CB P b (ej_w (x_note mb db (-1) (m.1 6 5) v) 6 5 v) := CB_fr z1 hC (fun i => by omega) (by omega) (by omega) (fun i hi => by omega)
    generalize ej_w (x_note mb db (-1) (m.1 6 5) v) 6 5 v = mx at *
    refine wp_some ⟨⟨funext fun j => z1.2 4000 j (by omega), funext fun j => z1.2 4001 j (by omega)⟩, z1.2 41 1 (by omega), ?_⟩
    simp only
    obtain ⟨mb2, db2, sh2, y1, y2, y3, y4, y5, y6, y7⟩ := m_change (m := mx) (d := d) (by rw [z1.2 41 8 (by omega)]; exact c3) (by omega) 1 0 v (m.1 6 5) (hval mx (z1.2 41 5 (by omega)))
    rw [y7 _ m_ring, if_neg (fun q => e q.symm)]
    have hsh : sh2 = sh := by rw [x3, y3]
    have hdb : db2 = db := by omega
    subst hsh
    subst hdb
    have hs2 : oj_sm (fun a j => a = 44 ∨ a = 45 ∨ a = 46 ∨ a = 47 ∨ (a = 41 ∧ (j = 5 ∨ j = 8 ∨ j = 9))) mx (ej_w (m_note mb2 db2 1 0 (m.1 6 5) v) 41 5 v) := by
      unfold m_note
      refine sm_trans (sm_trans (sm_trans (sm_trans (sm_trans (sm_trans (sm_mono y4 fun a j q => ?_) (sm_row fun j hj => absurd ?_ hj)) (sm_row fun j hj => absurd ?_ hj)) (sm_row fun j hj => absurd ?_ hj)) (sm_row fun j hj => absurd ?_ hj)) (sm_w ?_)) (sm_w ?_) <;> omega
    have u42 : (ej_w (m_note mb2 db2 1 0 (m.1 6 5) v) 41 5 v).1 41 5 = v := w_same
    have u44 : ∀ i, (ej_w (m_note mb2 db2 1 0 (m.1 6 5) v) 41 5 v).1 44 i = if i = db2 then 1 else mb2.1 44 i := fun i => by
      unfold m_note
      simp only [oj_row_rd, ej_w_rd, upd_rd, reduceIte, Nat.reduceEqDiff]
    have u45 : ∀ i, (ej_w (m_note mb2 db2 1 0 (m.1 6 5) v) 41 5 v).1 45 i = if i = db2 then 0 else mb2.1 45 i := fun i => by
      unfold m_note
      simp only [oj_row_rd, ej_w_rd, upd_rd, reduceIte, Nat.reduceEqDiff]
    have u46 : ∀ i, (ej_w (m_note mb2 db2 1 0 (m.1 6 5) v) 41 5 v).1 46 i = if i = db2 then m.1 6 5 else mb2.1 46 i := fun i => by
      unfold m_note
      simp only [oj_row_rd, ej_w_rd, upd_rd, reduceIte, Nat.reduceEqDiff]
    have u47 : ∀ i, (ej_w (m_note mb2 db2 1 0 (m.1 6 5) v) 41 5 v).1 47 i = if i = db2 then v else mb2.1 47 i := fun i => by
      unfold m_note
      simp only [oj_row_rd, ej_w_rd, upd_rd, reduceIte, Nat.reduceEqDiff]
    have u8 : (ej_w (m_note mb2 db2 1 0 (m.1 6 5) v) 41 5 v).1 41 8 = nI (db2 + 1) := by
      unfold m_note
      simp only [oj_row_rd, ej_w_rd, upd_rd, reduceIte, Nat.reduceEqDiff]
    have u9 : (ej_w (m_note mb2 db2 1 0 (m.1 6 5) v) 41 5 v).1 41 9 = 0 := by
      unfold m_note
      simp only [oj_row_rd, ej_w_rd, upd_rd, reduceIte, Nat.reduceEqDiff]
      exact y5
    generalize ej_w (m_note mb2 db2 1 0 (m.1 6 5) v) 41 5 v = my at *
    refine wp_some ⟨rfl, n, k, ρ, P, nb, IV_change hI (sm_trans (sm_mono z1 fun a j q => ?_) (sm_mono hs2 fun a j q => ?_)) (IC_new (fun i hi => c6 i (by omega)) y1 y2 ((hs2.2 11 4 (by omega)).trans v4) ((hs2.2 11 5 (by omega)).trans v5) u8 u9 (fun i hi => ?_) ?_) ?_ ?_ (fun i hi => ?_), ?_⟩
    · unfold sCH sIC; omega
    · unfold sCH sIC; omega
    · obtain ⟨p1, p2, p3⟩ := x5 i hi
      obtain ⟨p4, p5, p6, p7⟩ := y6 i hi
      have ne : i ≠ db2 := by omega
      refine ⟨?_, ?_, ?_, ?_, ?_, ?_, ?_⟩
      · rw [hs2.2 12 i (by omega), v12, if_neg ne]; exact p1
      · rw [hs2.2 13 i (by omega), v13, if_neg ne]; exact p2
      · rw [hs2.2 14 i (by omega), v14, if_neg ne]; exact p3
      · rw [u44, if_neg ne, p4]; exact z1.2 44 _ (by omega)
      · rw [u45, if_neg ne, p5]; exact z1.2 45 _ (by omega)
      · rw [u46, if_neg ne, p6]; exact z1.2 46 _ (by omega)
      · rw [u47, if_neg ne, p7]; exact z1.2 47 _ (by omega)
    · rw [u46, if_pos rfl, hs2.2 13 db2 (by omega), v13, if_pos rfl, u47, if_pos rfl, hs2.2 14 db2 (by omega), v14, if_pos rfl, hs2.2 12 db2 (by omega), v12, if_pos rfl, u44, if_pos rfl, u45, if_pos rfl]
      exact ⟨rfl, rfl, Or.inl ⟨rfl, rfl, rfl, h11, hv⟩⟩
    · rw [u42, hs2.2 6 5 (by omega), v7]
    · rw [hs2.2 6 5 (by omega), v7]; exact hv
    · rw [hs2.2 42 i (by omega), hs2.2 7 i (by omega), z1.2 42 i (by omega), z1.2 7 i (by omega)]; exact h7 i hi
    · exact CB_le (CB_fr hs2 vC (fun i => by omega) (by omega) (by omega) (fun i hi => by omega)) (by unfold oST; omega)
theorem op_mend (v1 v2 v3 : Int32) : OP (f_X10_mend v1 v2 v3) (f_X11_mend v1 v2 v3) := by
  by_cases k0 : v2 = 0
  · by_cases hw : i_wt v3
    · intro L xs b m ⟨n, k, ρ, P, nb, hI, hC⟩ hb
      have hn := hI.1.1
      rcases r_cases v1 n with ⟨s, hs, rfl⟩ | hN
      · obtain ⟨w, w1, w2, w3⟩ := hw
        have hw' : i_wt v3 := ⟨w, w1, w2, w3⟩
        unfold f_X10_mend
        rw [if_pos k0, x_hasY hI.1.2.2.1 (by omega) hs, o_bs, if_neg i10, x_isWeightY hw', o_bs, if_neg i10, w3]
        refine wp_bind (wp_mono (op_mendW w1 w2 hI hC hs) fun q hq => ?_)
        obtain ⟨q1, q2, q3⟩ := hq
        refine wp_some ⟨q1, ?_⟩
        simp only
        unfold f_X11_mend
        rw [if_pos k0, m_stoneY (q2.trans hI.1.2.2.2.1) (by omega) hs, o_bs, if_neg i10, ← w3, m_isWeightY hw', o_bs, if_neg i10, w3]
        exact wp_bind (wp_mono q3 fun r hr => wp_some hr)
      · have hx : f_X10_mend v1 v2 v3 m = some (-1, m) := by
          unfold f_X10_mend
          rw [if_pos k0, x_hasN hI.1.2.2.1 (by omega) hN, o_bs, if_pos rfl]
        have hm : f_X11_mend v1 v2 v3 m = some (-1, m) := by
          unfold f_X11_mend
          rw [if_pos k0, m_stoneN hI.1.2.2.2.1 (by omega) hN, o_bs, if_pos rfl]
        rw [hx]
        refine wp_some ⟨⟨rfl, rfl⟩, ?_⟩
        simp only
        rw [hm]
        exact wp_some ⟨rfl, n, k, ρ, P, nb, hI, CB_step hC⟩
    · refine OP_same fun L xs n k ρ P nb m hI => ⟨-1, ?_, ?_⟩
      · have hn := hI.1.1
        unfold f_X10_mend
        rw [if_pos k0]
        rcases r_cases v1 n with ⟨s, hs, rfl⟩ | hN
        · rw [x_hasY hI.1.2.2.1 (by omega) hs, o_bs, if_neg i10, x_isWeightN hw, o_bs, if_pos rfl]
        · rw [x_hasN hI.1.2.2.1 (by omega) hN, o_bs, if_pos rfl]
      · have hn := hI.1.1
        unfold f_X11_mend
        rw [if_pos k0]
        rcases r_cases v1 n with ⟨s, hs, rfl⟩ | hN
        · rw [m_stoneY hI.1.2.2.2.1 (by omega) hs, o_bs, if_neg i10, m_isWeightN hw, o_bs, if_pos rfl]
        · rw [m_stoneN hI.1.2.2.2.1 (by omega) hN, o_bs, if_pos rfl]
  by_cases k1 : v2 = 1
  · by_cases k2 : v1 = 0
    · by_cases k3 : v3 = 0 ∨ v3 = 1
      · intro L xs b m ⟨n, k, ρ, P, nb, hI, hC⟩ hb
        unfold f_X10_mend
        rw [if_neg k0, if_pos k1, if_pos k2, if_neg (show ¬ v3 < 0 from by rcases k3 with rfl | rfl <;> decide), if_pos (show v3 ≤ 1 from by rcases k3 with rfl | rfl <;> decide)]
        refine wp_bind (wp_mono (op_mendR k3 hI hC) fun q hq => ?_)
        obtain ⟨q1, q2, q3⟩ := hq
        refine wp_some ⟨q1, ?_⟩
        simp only
        unfold f_X11_mend
        rw [if_neg k0, if_pos k1, if_pos k2, p_in1 (show (0 : Int32) ≤ v3 from by rcases k3 with rfl | rfl <;> decide) (show v3 ≤ 1 from by rcases k3 with rfl | rfl <;> decide), o_bs, if_neg i10]
        exact wp_bind (wp_mono q3 fun r hr => wp_some hr)
      · have hin : ¬ (0 ≤ v3 ∧ v3 ≤ 1) := by
          rintro ⟨a, c⟩
          obtain ⟨j, hj, rfl⟩ := nI_of (Int32.not_lt.mpr a)
          have := (nI_leI (b := 1) hj (by decide)).mp c
          rcases (by omega : j = 0 ∨ j = 1) with rfl | rfl
          · exact k3 (Or.inl rfl)
          · exact k3 (Or.inr rfl)
        refine OP_no (v := -1) (fun m => ?_) (fun m => ?_)
        · unfold f_X10_mend
          rw [if_neg k0, if_pos k1, if_pos k2]
          by_cases a : v3 < 0
          · rw [if_pos a]
          · rw [if_neg a, if_neg (fun c => hin ⟨Int32.not_lt.mp a, c⟩)]
        · unfold f_X11_mend
          rw [if_neg k0, if_pos k1, if_pos k2, p_in0 hin, o_bs, if_pos rfl]
    · refine OP_no (v := -1) (fun m => ?_) (fun m => ?_)
      · unfold f_X10_mend; rw [if_neg k0, if_pos k1, if_neg k2]
      · unfold f_X11_mend; rw [if_neg k0, if_pos k1, if_neg k2]
  · refine OP_no (v := -1) (fun m => ?_) (fun m => ?_)
    · unfold f_X10_mend; rw [if_neg k0, if_neg k1]
    · unfold f_X11_mend; rw [if_neg k0, if_neg k1]
