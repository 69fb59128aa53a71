/-! mend: both sides -/
theorem x_change {m : ej_M} {d : Nat} (hm : m.1 11 4 = nI d) (hd : d ≤ 40) (c v was : Int32) : ∃ mb db sh, db < 40 ∧ db + sh = d ∧ sh = (if d = 40 then 1 else 0) ∧ oj_sm (fun a j => a = 12 ∨ a = 13 ∨ a = 14 ∨ (a = 11 ∧ j = 4)) m mb ∧ (∀ i, i < db → mb.1 12 i = m.1 12 (i + sh) ∧ mb.1 13 i = m.1 13 (i + sh) ∧ mb.1 14 i = m.1 14 (i + sh)) ∧ f_X1_change_B23 c v was m = if v = was then some (was, m) else (f_X1_become c v (x_note mb db c was v)).bind fun q => some (was, q.2) := by
  by_cases h40 : d = 40
  · subst h40
    refine ⟨ej_w (oj_row (oj_row (oj_row m 12 (o_rm 40 0 (m.1 12))) 13 (o_rm 40 0 (m.1 13))) 14 (o_rm 40 0 (m.1 14))) 11 4 (nI 39), 39, 1, by decide, rfl, rfl, ?_, fun i hi => ?_, ?_⟩
    · refine sm_trans (sm_trans (sm_trans (sm_row fun j hj => absurd ?_ hj) (sm_row fun j hj => absurd ?_ hj)) (sm_row fun j hj => absurd ?_ hj)) (sm_w ?_) <;> omega
    · simp only [oj_row_rd, ej_w_rd, upd_rd, reduceIte, Nat.reduceEqDiff]
      unfold o_rm
      rw [if_pos (by omega), if_pos (by omega), if_pos (by omega)]
      exact ⟨rfl, rfl, rfl⟩
    · unfold f_X1_change_B23
      by_cases e : v = was
      · rw [if_pos e, if_pos e]
      · rw [if_neg e, if_neg e, hm, if_pos (show nI 40 = 40 from rfl), x_forget hm, o_bs]
        exact x_44 w_same (by decide)
  · refine ⟨m, d, 0, by omega, rfl, (if_neg h40).symm, sm_refl, fun i hi => ⟨rfl, rfl, rfl⟩, ?_⟩
    unfold f_X1_change_B23
    by_cases e : v = was
    · rw [if_pos e, if_pos e]
    · rw [if_neg e, if_neg e, hm, if_neg (show ¬ nI d = (40 : Int32) from fun e => h40 (nI_inj (b := 40) (by omega) (by decide) e))]
      exact x_44 hm (by omega)
theorem m_change {m : ej_M} {d : Nat} (hm : m.1 41 8 = nI d) (hd : d ≤ 40) (f c v was : Int32) (hval : f_X11_valueAt f c m = some (was, m)) : ∃ mb db sh, db < 40 ∧ db + sh = d ∧ sh = (if d = 40 then 1 else 0) ∧ oj_sm (fun a j => a = 44 ∨ a = 45 ∨ a = 46 ∨ a = 47 ∨ (a = 41 ∧ (j = 8 ∨ j = 9))) m mb ∧ mb.1 41 9 = 0 ∧ (∀ i, i < db → mb.1 44 i = m.1 44 (i + sh) ∧ mb.1 45 i = m.1 45 (i + sh) ∧ mb.1 46 i = m.1 46 (i + sh) ∧ mb.1 47 i = m.1 47 (i + sh)) ∧ ∀ q, f_X11_lays f c v (m_note mb db f c was v) = some q → f_X11_changes f c v m = if was = v then some (was, m) else some (was, q.2) := by
  by_cases h40 : d = 40
  · subst h40
    refine ⟨ej_w (m_fg (ej_w m 41 9 0) 40) 41 8 (nI 39), 39, 1, by decide, rfl, rfl, ?_, ?_, fun i hi => ?_, fun q hq => ?_⟩
    · unfold m_fg
      refine sm_trans (sm_trans (sm_trans (sm_trans (sm_trans (sm_w ?_) (sm_row fun j hj => absurd ?_ hj)) (sm_row fun j hj => absurd ?_ hj)) (sm_row fun j hj => absurd ?_ hj)) (sm_row fun j hj => absurd ?_ hj)) (sm_w ?_) <;> omega
    · unfold m_fg
      simp only [oj_row_rd, ej_w_rd, upd_rd, reduceIte, Nat.reduceEqDiff]
    · unfold m_fg
      simp only [oj_row_rd, ej_w_rd, upd_rd, reduceIte, Nat.reduceEqDiff]
      unfold o_rm
      rw [if_pos (by omega), if_pos (by omega), if_pos (by omega), if_pos (by omega)]
      exact ⟨rfl, rfl, rfl, rfl⟩
    · unfold f_X11_changes oj_pf
      rw [hval, o_bs]
      by_cases e : was = v
      · rw [if_pos e, if_pos e]
      · rw [if_neg e, if_neg e, o_bs]
        simp only [ej_w_rd, upd_rd, reduceIte, Nat.reduceEqDiff]
        rw [hm, if_pos (show nI 40 = 40 from rfl)]
        refine m_34 ?_
        have e8 : (ej_w m 41 9 0).1 41 8 - 1 = nI 39 := by
          simp only [ej_w_rd, upd_rd, reduceIte, Nat.reduceEqDiff]
          rw [hm]; rfl
        rw [e8, m_121 w_same (by decide), hq, o_bs]
  · refine ⟨ej_w m 41 9 0, d, 0, by omega, rfl, (if_neg h40).symm, sm_w (by omega), w_same, fun i hi => ?_, fun q hq => ?_⟩
    · simp only [ej_w_rd, reduceIte, Nat.reduceEqDiff]
      exact ⟨rfl, rfl, rfl, rfl⟩
    · unfold f_X11_changes oj_pf
      rw [hval, o_bs]
      by_cases e : was = v
      · rw [if_pos e, if_pos e]
      · rw [if_neg e, if_neg e, o_bs]
        simp only [ej_w_rd, upd_rd, reduceIte, Nat.reduceEqDiff]
        rw [hm, if_neg (show ¬ nI d = (40 : Int32) from fun e => h40 (nI_inj (b := 40) (by omega) (by decide) e)), m_121 (by simp only [ej_w_rd, upd_rd, reduceIte, Nat.reduceEqDiff]; exact hm) (by omega), hq, o_bs]
/-- the entries afterwards -/
theorem IC_new {n d db sh : Nat} {m m' : ej_M} (hc : ∀ i, i < d → m.1 46 i = m.1 13 i ∧ m.1 47 i = m.1 14 i
    ∧ ((m.1 12 i = -1 ∧ m.1 44 i = 1 ∧ m.1 45 i = 0 ∧ (m.1 13 i = 0 ∨ m.1 13 i = 1) ∧ (m.1 14 i = 0 ∨ m.1 14 i = 1))
      ∨ ∃ s v w, s < n ∧ m.1 12 i = nI s ∧ m.1 44 i = 0 ∧ m.1 45 i = nI s ∧ m.1 13 i = nI v ∧ 1 ≤ v ∧ v ≤ 99 ∧ m.1 14 i = nI w ∧ 1 ≤ w ∧ w ≤ 99))
    (h1 : db < 40) (h2 : db + sh = d) (g1 : m'.1 11 4 = nI (db + 1)) (g2 : m'.1 11 5 = nI (db + 1)) (g3 : m'.1 41 8 = nI (db + 1)) (g4 : m'.1 41 9 = 0)
    (ho : ∀ i, i < db → m'.1 12 i = m.1 12 (i + sh) ∧ m'.1 13 i = m.1 13 (i + sh) ∧ m'.1 14 i = m.1 14 (i + sh) ∧ m'.1 44 i = m.1 44 (i + sh) ∧ m'.1 45 i = m.1 45 (i + sh) ∧ m'.1 46 i = m.1 46 (i + sh) ∧ m'.1 47 i = m.1 47 (i + sh))
    (hn : m'.1 46 db = m'.1 13 db ∧ m'.1 47 db = m'.1 14 db
    ∧ ((m'.1 12 db = -1 ∧ m'.1 44 db = 1 ∧ m'.1 45 db = 0 ∧ (m'.1 13 db = 0 ∨ m'.1 13 db = 1) ∧ (m'.1 14 db = 0 ∨ m'.1 14 db = 1))
      ∨ ∃ s v w, s < n ∧ m'.1 12 db = nI s ∧ m'.1 44 db = 0 ∧ m'.1 45 db = nI s ∧ m'.1 13 db = nI v ∧ 1 ≤ v ∧ v ≤ 99 ∧ m'.1 14 db = nI w ∧ 1 ≤ w ∧ w ≤ 99)) : IC n m' := by
  refine ⟨db + 1, 0, by omega, g1, g3, g2, g4, fun i hi => ?_⟩
  by_cases e : i = db
  · rw [e]; exact hn
  · obtain ⟨o1, o2, o3, o4, o5, o6, o7⟩ := ho i (by omega)
    rw [o1, o2, o3, o4, o5, o6, o7]
    exact hc (i + sh) (by omega)
