/-! mend -/
/-- the first of 40 forgotten -/
theorem x_forget {m : ej_M} (hm : m.1 11 4 = nI 40) : f_X1_forgetFirst m = some ((), ej_w (oj_row (oj_row (oj_row m 12 (o_rm 40 0 (m.1 12))) 13 (o_rm 40 0 (m.1 13))) 14 (o_rm 40 0 (m.1 14))) 11 4 (nI 39)) := by
  unfold f_X1_forgetFirst oj_pf
  rw [show f_X10_remove 12 40 0 m = _ from x_remove (n := 40) (p := 0) ar_12 (by decide) (by decide) (by decide), o_bs]
  simp only
  rw [show ∀ m, f_X10_remove 13 40 0 m = _ from fun m => x_remove (n := 40) (p := 0) ar_13 (by decide) (by decide) (by decide), o_bs]
  simp only
  rw [show ∀ m, f_X10_remove 14 40 0 m = _ from fun m => x_remove (n := 40) (p := 0) ar_14 (by decide) (by decide) (by decide), o_bs]
  simp only [oj_row_rd, ej_w_rd, upd_rd, reduceIte, Nat.reduceEqDiff]
  rw [hm, o_bs]
  rfl
/-- what the class writes down of a change -/
def x_note (m : ej_M) (d : Nat) (c was v : Int32) : ej_M := ej_w (ej_w (oj_row (oj_row (oj_row m 12 (upd (m.1 12) d c)) 13 (upd (m.1 13) d was)) 14 (upd (m.1 14) d v)) 11 4 (nI (d + 1))) 11 5 (nI (d + 1))
theorem x_44 {m : ej_M} {d : Nat} {c v was : Int32} (hm : m.1 11 4 = nI d) (hd : d < 40) : f_X1_change_B44 c v was m = (f_X1_become c v (x_note m d c was v)).bind fun q => some (was, q.2) := by
  unfold f_X1_change_B44 oj_pf
  rw [hm, p_lay1 ar_12 hd, o_bs]
  simp only [oj_row_rd, ej_w_rd, upd_rd, reduceIte, Nat.reduceEqDiff]
  rw [hm, p_lay1 ar_13 hd, o_bs]
  simp only [oj_row_rd, ej_w_rd, upd_rd, reduceIte, Nat.reduceEqDiff]
  rw [hm, p_lay1 ar_14 hd, o_bs]
  simp only [oj_row_rd, ej_w_rd, upd_rd, reduceIte, Nat.reduceEqDiff]
  rw [hm, nI_1, o_bs, o_bs]
  simp only [oj_row_rd, ej_w_rd, upd_rd, reduceIte, Nat.reduceEqDiff]
  rfl
def m_note (m : ej_M) (d : Nat) (f c was v : Int32) : ej_M := ej_w (oj_row (oj_row (oj_row (oj_row m 44 (upd (m.1 44) d f)) 45 (upd (m.1 45) d c)) 46 (upd (m.1 46) d was)) 47 (upd (m.1 47) d v)) 41 8 (nI (d + 1))
theorem m_121 {m : ej_M} {d : Nat} {f c v was : Int32} (hm : m.1 41 8 = nI d) (hd : d < 40) : f_X11_changes_B121 f c v was m = (f_X11_lays f c v (m_note m d f c was v)).bind fun q => some (was, q.2) := by
  unfold f_X11_changes_B121 oj_pf
  rw [hm, oj_ar_st ar_44 hd, o_bs]
  simp only [oj_row_rd, ej_w_rd, upd_rd, reduceIte, Nat.reduceEqDiff]
  rw [hm, oj_ar_st ar_45 hd, o_bs]
  simp only [oj_row_rd, ej_w_rd, upd_rd, reduceIte, Nat.reduceEqDiff]
  rw [hm, oj_ar_st ar_46 hd, o_bs]
  simp only [oj_row_rd, ej_w_rd, upd_rd, reduceIte, Nat.reduceEqDiff]
  rw [hm, oj_ar_st ar_47 hd, o_bs]
  simp only [oj_row_rd, ej_w_rd, upd_rd, reduceIte, Nat.reduceEqDiff]
  rw [hm, nI_1, o_bs]
  rfl
/-- the reference forgets the first -/
def m_fg (m : ej_M) (i : Nat) : ej_M := oj_row (oj_row (oj_row (oj_row m 44 (o_rm i 0 (m.1 44))) 45 (o_rm i 0 (m.1 45))) 46 (o_rm i 0 (m.1 46))) 47 (o_rm i 0 (m.1 47))
theorem o_rm_up (i : Nat) (hi : 1 ≤ i) (f : Nat → Int32) : upd (o_rm i 0 f) (i - 1) (f i) = o_rm (i + 1) 0 f := by
  funext j
  unfold upd o_rm
  by_cases e : j = i - 1
  · rw [if_pos e, if_pos (by omega), e]; congr 1; omega
  · rw [if_neg e]
    by_cases e2 : 0 ≤ j ∧ j + 1 < i
    · rw [if_pos e2, if_pos (by omega)]
    · rw [if_neg e2, if_neg (by omega)]
theorem o_rm_at (i : Nat) (f : Nat → Int32) : o_rm i 0 f i = f i := by unfold o_rm; rw [if_neg (by omega)]
theorem o_rm_1 (f : Nat → Int32) : o_rm 1 0 f = f := funext fun j => by unfold o_rm; rw [if_neg (by omega)]
theorem m_ext {m m' : ej_M} (h1 : ∀ b, m.1 b = m'.1 b) (h2 : m.2 = m'.2) : m = m' := Prod.ext (funext h1) h2
theorem m_34 {m : ej_M} {f c v was : Int32} {q : Int32 × ej_M} (hq : f_X11_changes_B121 f c v was (ej_w (m_fg m 40) 41 8 (m.1 41 8 - 1)) = some q) : f_X11_changes_L34 f c v was 1 m = some q := by
  unfold f_X11_changes_L34
  refine wp_get (wp_up (fun i => m_fg m i) (n := 40) (i0 := 1) (by omega) (by omega) ?_ (fun i h1 hi => ?_) ?_)
  · unfold m_fg
    rw [o_rm_1, o_rm_1, o_rm_1, o_rm_1, oj_row_id, oj_row_id, oj_row_id, oj_row_id]
  · simp only
    unfold f_X11_changes_L34b m_fg
    rw [if_neg (show ¬ 40 ≤ nI i from fun q => by have := (nI_leI (a := 40) (by decide) (by omega)).mp q; omega), nI_m1 h1, oj_ar_ld ar_44 hi, o_bs, oj_ar_st ar_44 (by omega), o_bs]
    simp only [oj_row_rd, reduceIte, Nat.reduceEqDiff]
    rw [oj_ar_ld ar_45 hi, o_bs, oj_ar_st ar_45 (by omega), o_bs]
    simp only [oj_row_rd, reduceIte, Nat.reduceEqDiff]
    rw [oj_ar_ld ar_46 hi, o_bs, oj_ar_st ar_46 (by omega), o_bs]
    simp only [oj_row_rd, reduceIte, Nat.reduceEqDiff]
    rw [oj_ar_ld ar_47 hi, o_bs, oj_ar_st ar_47 (by omega), o_bs]
    simp only [oj_row_rd, reduceIte, Nat.reduceEqDiff]
    rw [o_rm_at, o_rm_at, o_rm_at, o_rm_at, o_rm_up i h1, o_rm_up i h1, o_rm_up i h1, o_rm_up i h1, nI_1]
    refine congrArg (fun z => some (Sum.inl (nI (i + 1), z))) (m_ext (fun b => ?_) rfl)
    simp only [oj_row_rd]
    by_cases e1 : b = 47
    · rw [if_pos e1, if_pos e1]
    by_cases e2 : b = 46
    · simp only [if_neg e1, if_pos e2]
    by_cases e3 : b = 45
    · simp only [if_neg e1, if_neg e2, if_pos e3]
    by_cases e4 : b = 44
    · simp only [if_neg e1, if_neg e2, if_neg e3, if_pos e4]
    simp only [if_neg e1, if_neg e2, if_neg e3, if_neg e4]
  · simp only
    unfold f_X11_changes_L34b oj_pf
    rw [if_pos (show (40 : Int32) ≤ nI 40 from Int32.le_refl _), o_bs]
    have e8 : (m_fg m 40).1 41 8 = m.1 41 8 := by unfold m_fg; simp only [oj_row_rd, reduceIte, Nat.reduceEqDiff]
    rw [e8, hq]
    exact wp_inr rfl
