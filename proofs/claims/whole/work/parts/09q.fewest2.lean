/-! fewest, both -/
theorem gdv_congr {k i : Nat} {ρ : Nat → Nat} {v v' : Nat → Int32} (h : ∀ j, j ≤ i → v j = v' j) (hg : gdv k ρ v i) : gdv k ρ v' i := by
  obtain ⟨⟨p, p1, p2⟩, g2⟩ := hg
  exact ⟨⟨p, p1, by rw [← h i (Nat.le_refl _)]; exact p2⟩, fun j hj => by rw [← h j (by omega), ← h i (Nat.le_refl _)]; exact g2 j hj⟩
theorem op_fewest (v1 : Int32) : OP (f_X10_fewest v1) (f_X11_fewest v1) := by
  refine OP_ask fun L xs n k ρ P nb b m hI hC hb => ?_
  obtain ⟨h1, h2, h3, h4, h5, h6, h7, h8, h9, h10, h11, h12, h13, h14, h15⟩ := id hI.1
  have hF := hI.2.2.2.2.2.1
  have hnb := hI.2.2.2.2.1.1
  have hno : ∀ c : Int32, f_X10_fewest v1 m = some (c, m) → (∀ m', IV L xs n k ρ P nb m' → oj_sm SX m m' → f_X11_fewest v1 m' = some (c, m')) → oj_wp (f_X10_fewest v1 m) fun q => oj_sm SX m q.2 ∧ CB P (b + oST) q.2 ∧ ∀ m', IV L xs n k ρ P nb m' → oj_sm SX m m' → oj_wp (f_X11_fewest v1 m') fun r => q.1 = r.1 ∧ oj_sm SM m' r.2 := fun c e1 e2 => by
    rw [e1]
    refine wp_some ⟨sm_refl, CB_step hC, fun m' hI' hs => ?_⟩
    rw [e2 m' hI' hs]
    exact wp_some ⟨rfl, sm_refl⟩
  have hMs : ∀ s, s < 6 → v1 = nI s → ∀ m', m'.1 41 4 = nI k → f_X11_fewest v1 m' = (f_X11_rowFault v1 m').bind fun q2 => if 0 ≤ q2.1 then if 6 < (q2.2.1 41 4) then some ((-5), q2.2) else (oj_ld 0 q2.2 67 v1).bind fun w3 => if w3 = (q2.2.1 41 4) then f_X11_fewest_L52 v1 0 0 q2.2 else some ((-5), q2.2) else (f_X11_rowFault v1 q2.2).bind fun q4 => some (q4.1, q4.2) := fun s hs e m' g => by
    unfold f_X11_fewest
    rw [e, m_shelfY hs, o_bs, if_neg i10]
  rcases sh_by hF hnb v1 with ⟨c, c1, c2, c3, c4⟩ | ⟨s, l, hs, hl, rfl, a38, a66, a39, a67, a7, c3, c4⟩
  · refine hno c ?_ fun m' hI' hsm => ?_
    · unfold f_X10_fewest
      rw [c3, o_bs, if_neg (neg_ne0 c1)]
    · rcases c4 with ⟨rfl, hN⟩ | ⟨s, hs, e, _, hrf⟩
      · unfold f_X11_fewest
        rw [m_shelfN hN, o_bs, if_pos rfl]
      · have e66 : m'.1 66 = m.1 66 := funext fun j => hsm.2 66 j (by unfold SX; omega)
        rw [hMs s hs e m' hI'.1.2.2.2.2.2.1, hrf m' e66, o_bs, if_neg (neg_nle c1)]
        simp only
        rw [hrf m' e66, o_bs]
  have hX : f_X10_fewest (nI s) m = (f_X9_isTold (nI s) m).bind fun q2 => if q2.1 = 0 then some ((-5), q2.2) else (f_X9_fewestTurns q2.2).bind fun q3 => some (q3.1, q3.2) := by
    unfold f_X10_fewest
    rw [c3, o_bs, if_pos rfl]
  have hM : ∀ m', IV L xs n k ρ P nb m' → oj_sm SX m m' → f_X11_fewest (nI s) m' = if 6 < nI k then some ((-5), m') else if nI l = nI k then f_X11_fewest_L52 (nI s) 0 0 m' else some ((-5), m') := fun m' hI' hsm => by
    have e66 : m'.1 66 = m.1 66 := funext fun j => hsm.2 66 j (by unfold SX; omega)
    rw [hMs s hs rfl m' hI'.1.2.2.2.2.2.1, c4 m' e66, o_bs, if_pos (show (0 : Int32) ≤ 0 by decide)]
    simp only
    rw [hI'.1.2.2.2.2.2.1, oj_ar_ld ar_67 hs, o_bs, hsm.2 67 s (by unfold SX; omega), a67]
  by_cases e6 : 6 < k
  · have e6' : (6 : Int32) < nI k := (nI_ltI (a := 6) (by decide) (by omega)).mpr e6
    refine hno (-5) ?_ fun m' hI' hsm => ?_
    · rw [hX]
      unfold f_X9_isTold
      rw [h5, if_pos e6', o_bs, if_pos rfl]
    · rw [hM m' hI' hsm, if_pos e6']
  have hk : k ≤ 6 := by omega
  have e6' : ¬ (6 : Int32) < nI k := fun q => e6 ((nI_ltI (a := 6) (by decide) (by omega)).mp q)
  have hX2 : f_X9_isTold (nI s) m = if nI l = nI k then (f_X4_setOfRow m).bind fun q2 => f_X9_isTold_L37 (nI s) (nI k) q2.1 0 q2.2 else some (0, m) := by
    unfold f_X9_isTold
    rw [h5, if_neg e6', x_length hs, o_bs, a38, if_neg (show ¬ (0 : Int32) < 0 by decide), a39]
  by_cases el : l = k
  rotate_left
  · have el' : ¬ nI l = nI k := fun q => el (nI_inj (by omega) (by omega) q)
    refine hno (-5) ?_ fun m' hI' hsm => ?_
    · rw [hX, hX2, if_neg el', o_bs, if_pos rfl]
    · rw [hM m' hI' hsm, if_neg e6', if_neg el']
  subst el
  have hx8 : ∀ q, q < l → m.1 8 q = nI (ρ q) ∧ ρ q < 8 := fun q hq => ⟨(h8 q hq).1, by have := (h8 q hq).2.2; omega⟩
  obtain ⟨U, u1, u2, u3⟩ := x_setOfRow (m := m) h5 (by omega) hx8 h9
  rw [hX, hX2, if_pos rfl, u1, o_bs]
  simp only
  refine wp_bind (wp_mono (x_toldL hs h1 hk h3 (fun q hq => (h8 q hq).2.2) u2 u3) fun q hq => ?_)
  obtain ⟨q1, q2⟩ := hq
  have hsX : oj_sm SX m q.2 := sm_mono q1 fun a j z => by unfold SX; omega
  have hC1 : CB P b q.2 := CB_fr q1 hC (fun i => by omega) (by omega) (by omega) (fun i _ => by omega)
  have hv : ∀ m' : ej_M, m'.2 = m.2 → ∀ i, i < 60 → Int64.toInt32 (m'.2 68 (60 * s + i)) = Int64.toInt32 (m.2 40 (60 * s + i)) := fun m' e i hi => by rw [e, (a7 i hi).1]
  rcases q2 with ⟨z1, i, i1, i2⟩ | ⟨z1, z2⟩
  · rw [z1, if_pos rfl]
    refine wp_some ⟨hsX, CB_le hC1 (by omega), fun m' hI' hsm => ?_⟩
    obtain ⟨g1, g2, g3, g4, g5, g6, g7, g8, g9, _⟩ := id hI'.1
    rw [hM m' hI' hsm, if_neg e6', if_pos rfl]
    refine m_toldL hs h1 hk g4 g6 (fun q hq => (g8 q hq).2.1) (fun q hq => (g8 q hq).2.2) (fun _ m2 hs2 => ⟨rfl, sm_mono hs2 fun a j z => by unfold SM; omega⟩) fun hg => absurd (gdv_congr (fun j hj => hv m' hsm.1 j (by omega)) (hg i i1)) i2
  · obtain ⟨τ, hτ⟩ := gdv_tau (v := fun i => Int64.toInt32 (m.2 40 (60 * s + i))) l fun i hi => by
      obtain ⟨⟨p, p1, p2⟩, _⟩ := (z2 i hi).1
      exact ⟨ρ p, (hx8 p p1).2, p2⟩
    rw [z1, if_neg i10]
    refine wp_bind (wp_mono (x_fewestTurns (b := b + 1) (ρ := ρ) (τ := τ) hk (by unfold oST at hb; omega) h9 ((q1.2 6 4 (by omega)).trans h5) (fun q' hq' => by rw [q1.2 8 q' (by omega)]; exact hx8 q' hq') (fun q' hq' => ⟨(z2 q' hq').2.trans (hτ q' hq').1, (hτ q' hq').2⟩) (XK_go hsX (IV_XK hI)) (CB_N hC1 l)) fun r hr => ?_)
    obtain ⟨r1, r2, r3⟩ := hr
    refine wp_some ⟨sm_trans hsX (sm_mono r2 fun _ _ => SF2_SX), CN_step r3, fun m' hI' hsm => ?_⟩
    obtain ⟨g1, g2, g3, g4, g5, g6, g7, g8, g9, _⟩ := id hI'.1
    rw [hM m' hI' hsm, if_neg e6', if_pos rfl]
    refine m_toldL hs h1 hk g4 g6 (fun q hq => (g8 q hq).2.1) (fun q hq => (g8 q hq).2.2) (fun ⟨i, i1, i2⟩ => absurd (gdv_congr (fun j hj => (hv m' hsm.1 j (by omega)).symm) (z2 i i1).1) i2) fun _ m2 hs2 h62 => ?_
    have hs3 : oj_sm SM m' (ej_w m2 41 29 (nI l)) := sm_trans (sm_mono hs2 fun a j z => by unfold SM; omega) (sm_w (by unfold SM; omega))
    refine wp_mono (m_fewL (ρ := ρ) (τ := τ) hk h1 (MK_go h1 hs3 (IV_MK hI' hsm)) ((hs3.2 41 4 (by unfold SM; omega)).trans g6) w_same (fun q' hq' => by rw [hs3.2 43 q' (by unfold SM; omega)]; exact (g8 q' hq').2) g9 fun i hi => ?_) fun t ht => ?_
    · rw [w_place (by decide), h62 i hi, hv m' hsm.1 i (by omega)]
      exact hτ i hi
    · exact ⟨AnS_eq hk h9 (fun q' hq' => (hx8 q' hq').2) r1 ht.1, sm_trans hs3 ht.2⟩
