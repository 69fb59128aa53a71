/-! law: what comes next -/
theorem st_al : ∀ t, t < 11 → ∀ m : ej_M, ej_al (ej_sh, m) (3000 + t) = some (1, ej_sl t) := by
  intro t ht m
  rcases (by omega : t = 0 ∨ t = 1 ∨ t = 2 ∨ t = 3 ∨ t = 4 ∨ t = 5 ∨ t = 6 ∨ t = 7 ∨ t = 8 ∨ t = 9 ∨ t = 10) with rfl | rfl | rfl | rfl | rfl | rfl | rfl | rfl | rfl | rfl | rfl <;> rfl
theorem st_sl : ∀ t, t < 11 → 1 ≤ ej_sl t ∧ ej_sl t ≤ 6 := by decide
theorem st_ld {t i : Nat} (ht : t < 11) (hi : i < ej_sl t) (m : ej_M) : oj_ld 1 m (3000 + t) (nI i) = some (m.1 (3000 + t) i) := by
  have := (st_sl t ht).2
  unfold oj_ld
  rw [st_al t ht m]
  simp only
  rw [nI_clamp (by omega), if_pos ⟨trivial, fun q => q.elim (fun z => nI_pos (by omega) z) (fun z => by omega)⟩]
theorem st_ln {t : Nat} (ht : t < 11) (m : ej_M) : oj_ln m (3000 + t) = some (nI (ej_sl t)) := by
  unfold oj_ln
  rw [st_al t ht m]
  rfl
theorem st_sv {t : Nat} (ht : t < 11) : oj_sv (2000 + t) = some (3000 + t) := by
  unfold oj_sv
  rw [if_pos ⟨by omega, by show 2000 + t < 2011; omega⟩]
  exact congrArg some (by omega)
theorem st_sc {t : Nat} (ht : t < 11) : oj_sc (2000 + t) = some 0 := by
  unfold oj_sc
  rw [if_pos ⟨by omega, by show 2000 + t < 2011; omega⟩]
theorem x_signIn {t : Nat} {v : Int32} {m : ej_M} (ht : t < 11) : oj_wp (f_J1_indexOfChar_4cfef_L7 (3000 + t) (nI (ej_sl t)) v 0 m) fun q => q.2 = m ∧ ((∃ p, p < ej_sl t ∧ m.1 (3000 + t) p = v ∧ (∀ p', p' < p → m.1 (3000 + t) p' ≠ v) ∧ q.1 = nI p) ∨ ((∀ p, p < ej_sl t → m.1 (3000 + t) p ≠ v) ∧ q.1 = -1)) := by
  have hl := (st_sl t ht).2
  unfold f_J1_indexOfChar_4cfef_L7
  refine wp_loop (fun i (s : Int32 × ej_M) => s = (nI i, m) ∧ ∀ p, p < i → m.1 (3000 + t) p ≠ v) (ej_sl t) (by unfold oj_FU; omega) (fun i s hi hI => ?_) (fun s hI => ?_) (i0 := 0) (by omega) ⟨rfl, fun p h => absurd h (Nat.not_lt_zero _)⟩
  · obtain ⟨rfl, i1⟩ := hI
    simp only
    unfold f_J1_indexOfChar_4cfef_L7b
    rw [if_neg (fun q => by have := (nI_leI (by omega) (by omega)).mp q; omega), st_ld ht hi, o_bs]
    by_cases e : m.1 (3000 + t) i = v
    · rw [if_pos e]
      exact wp_inr ⟨rfl, Or.inl ⟨i, hi, e, i1, rfl⟩⟩
    · rw [if_neg e, nI_1]
      refine wp_inl ⟨rfl, fun p hp => ?_⟩
      by_cases z : p = i
      · rw [z]; exact e
      · exact i1 p (by omega)
  · obtain ⟨rfl, i1⟩ := hI
    simp only
    unfold f_J1_indexOfChar_4cfef_L7b
    rw [if_pos (Int32.le_refl _)]
    exact wp_inr ⟨rfl, Or.inr ⟨i1, rfl⟩⟩
theorem x_length8 {t : Nat} (ht : t < 11) (m : ej_M) : f_J0_length_8abf5 (2000 + t) m = some (nI (ej_sl t), m) := by
  have hl := (st_sl t ht).2
  unfold f_J0_length_8abf5
  rw [st_sv ht, o_bs, st_ln ht, o_bs, o_bs]
  unfold f_J0_coder_7d493
  rw [if_neg i10, st_sc ht, o_bs, show oj_rn .byte 0 m = some (0, m) from rfl, o_bs]
  simp only
  rw [show (0 : Int32) = nI 0 from rfl, nb_shr (by omega) (by decide), Nat.pow_zero, Nat.div_one]
theorem x_sign {t c : Nat} {m : ej_M} (ht : t < 11) (hc : c < 256) : oj_wp (f_J0_indexOf_0f7a4 (2000 + t) (nI c) m) fun q => q.2 = m ∧ ((∃ p, p < ej_sl t ∧ m.1 (3000 + t) p = (Int32.toInt8 (nI c)).toInt32 ∧ (∀ p', p' < p → m.1 (3000 + t) p' ≠ (Int32.toInt8 (nI c)).toInt32) ∧ q.1 = nI p) ∨ ((∀ p, p < ej_sl t → m.1 (3000 + t) p ≠ (Int32.toInt8 (nI c)).toInt32) ∧ q.1 = -1)) := by
  have hl := st_sl t ht
  unfold f_J0_indexOf_0f7a4 f_J0_indexOf_7cf53
  rw [st_sv ht, o_bs, o_bs]
  unfold f_J0_isLatin1_aae02
  rw [if_neg i10, st_sc ht, o_bs, if_pos rfl, o_bs, if_neg i10, o_bs, o_bs]
  simp only
  rw [x_length8 ht, o_bs]
  unfold f_J1_indexOf_4cfef f_J1_canEncode_9a6ad
  simp only
  rw [if_neg (nI_pos (by omega)), if_neg (show ¬ (255 : Int32) < nI c from fun q => by have := (nI_ltI (a := 255) (by decide) (by omega)).mp q; omega), o_bs, if_neg i10]
  simp only
  rw [st_ln ht, o_bs, if_neg (show ¬ (0 : Int32) < 0 by decide), if_neg (show ¬ nI (ej_sl t) < nI (ej_sl t) from fun q => Int32.lt_irrefl q), if_pos (show (0 : Int32) < nI (ej_sl t) from (nI_ltI (a := 0) (by decide) (by omega)).mpr (by omega))]
  unfold f_J1_indexOfChar_4cfef
  refine wp_bind (wp_bind (wp_bind (wp_mono (x_signIn ht) fun q hq => ?_)))
  exact wp_some (wp_some (wp_some hq))
