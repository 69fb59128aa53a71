/-! of -/
theorem i10 : ¬ (1 : Int32) = 0 := by decide
theorem m_inK {v hi : Int32} {N : Nat} (hN : N < 2 ^ 31) (e : hi = nI N - 1) (h : ∀ i, i < N → v ≠ nI i) (m : ej_M) : f_X11_in v 0 hi m = some (0, m) := by
  subst e; exact m_inN hN h m
theorem m_inKY {i N : Nat} {hi : Int32} (h : i < N) (hN : N < 2 ^ 31) (e : hi = nI N - 1) (m : ej_M) : f_X11_in (nI i) 0 hi m = some (1, m) := by
  subst e; exact m_inY h hN m
theorem fst_neg {v : Int32} {f : Nat → Bool} {n : Nat} (hn : n < 1000) (h : x_fst v f n) : (v < 0 ↔ v = -2) ∧ (∀ p, v = nI p → p < 2 ^ 31 → p < n) := by
  rcases h with ⟨p, a, b, c, rfl⟩ | ⟨a, rfl⟩
  · refine ⟨⟨fun e => absurd e (nI_pos (by omega)), fun e => ?_⟩, fun q e hq => ?_⟩
    · have := nI_pos (n := p) (by omega)
      rw [e] at this
      exact absurd (by decide) this
    · have := nI_inj (by omega) hq e
      omega
  · refine ⟨⟨fun _ => rfl, fun _ => by decide⟩, fun q e hq => ?_⟩
    have := nI_pos hq
    rw [← e] at this
    exact absurd (by decide) this
theorem IV_placeX {L : Nat} {xs : Nat → Int32} {n k : Nat} {ρ : Nat → Nat} {P : Option (List (List Int32 × List Int32))} {nb : Nat} {m : ej_M} (h : IV L xs n k ρ P nb m) (v : Int32) : ∃ u, f_X4_placeOf v m = some (u, m) ∧ x_fst u (pl_f ρ v) k := by
  obtain ⟨⟨h1, h2, h3, h4, h5, h6, h7, h8, h9, h10, h11, h12, h13, h14, h15⟩, _⟩ := h
  exact x_placeOf h5 (by omega) (fun q hq => (h8 q hq).1) v
theorem IV_placeM {L : Nat} {xs : Nat → Int32} {n k : Nat} {ρ : Nat → Nat} {P : Option (List (List Int32 × List Int32))} {nb : Nat} {m : ej_M} (h : IV L xs n k ρ P nb m) (v : Int32) : ∃ u, f_X11_placeOf v m = some (u, m) ∧ x_fst u (pl_f ρ v) k := by
  obtain ⟨⟨h1, h2, h3, h4, h5, h6, h7, h8, h9, h10, h11, h12, h13, h14, h15⟩, _⟩ := h
  exact m_placeOf h6 (by omega) (fun q hq => (h8 q hq).2.1) v
theorem op_of_N {i : Nat} (hi : i < 3) (v1 : Int32) : OP (f_X10_of v1 (nI i)) (f_X11_of v1 (nI i)) := by
  refine OP_ask fun L xs n k ρ P nb b m hI hC hb => ?_
  have hA := hI.1
  obtain ⟨h1, h2, h3, h4, h5, h6, h7, h8, h9, h10, h11, h12, h13, h14, h15⟩ := hA
  have hin : ∀ m', f_X11_in (nI i) 0 2 m' = some (1, m') := fun m' => m_inKY hi (by decide) (by decide) m'
  rcases r_cases v1 n with ⟨s, hs, rfl⟩ | hN
  · obtain ⟨u, u1, u2⟩ := IV_placeX hI (nI s)
    have hM : ∀ m', IV L xs n k ρ P nb m' → f_X11_of (nI s) (nI i) m' = if 2 ≤ nI i then (f_X11_see m').bind fun q8 => if 0 ≤ u then (f_X11_isLawfulAt u q8.2).bind fun q9 => if q9.1 = 0 then some (0, q9.2) else some (1, q9.2) else some ((-2), q8.2) else if nI i = 0 then some (m'.1 42 s, m') else some (u, m') := fun m' hI' => by
      obtain ⟨u', w1, w2⟩ := IV_placeM hI' (nI s)
      have : u' = u := fst_eq w2 u2
      subst this
      unfold f_X11_of
      rw [hin, o_bs, if_neg i10, m_stoneY hI'.1.2.2.2.1 (by omega) hs, o_bs, if_neg i10, w1, o_bs, oj_ar_ld ar_42 (by omega), o_bs]
    have hX : f_X10_of (nI s) (nI i) m = if nI i = 0 then some (m.1 7 s, m) else if nI i = 1 then some (u, m) else if u = -2 then some (-2, m) else (f_X4_isLawfulAt 8 (nI k) u m).bind fun q2 => if q2.1 = 0 then some (0, q2.2) else some (1, q2.2) := by
      unfold f_X10_of
      rw [x_hasY h3 (by omega) hs]
      simp only [o_bs]
      rcases (by omega : i = 0 ∨ i = 1 ∨ i = 2) with rfl | rfl | rfl
      · rw [if_pos (by decide), if_neg (by decide), x_weightN (by omega), o_bs, if_pos (by decide)]
      · rw [if_neg (by decide), if_pos (by decide), if_neg (by decide), u1, o_bs, if_neg (by decide), if_pos (by decide)]
      · rw [if_neg (by decide), if_neg (by decide), if_pos (by decide), if_neg (by decide), if_neg (by decide), if_neg (by decide)]
        unfold f_X4_isStoneLawful
        rw [u1, o_bs, h5]
        by_cases e : u = -2
        · rw [if_pos e]; rfl
        · rw [if_neg e]
          dsimp only
          rcases f_X4_isLawfulAt 8 (nI k) u m with _ | ⟨v, m2⟩
          · rfl
          · rw [o_bs]
            by_cases e0 : v = 0
            · rw [if_pos e0]; rfl
            · rw [if_neg e0]; rfl
    rw [hX]
    rcases (by omega : i = 0 ∨ i = 1 ∨ i = 2) with rfl | rfl | rfl
    · rw [if_pos (by decide)]
      refine wp_some ⟨sm_refl, CB_step hC, fun m' hI' hsm => ?_⟩
      rw [hM m' hI', if_neg (by decide), if_pos (by decide)]
      refine wp_some ⟨?_, sm_refl⟩
      rw [(hI'.1.2.2.2.2.2.2.1 s hs).1, hsm.2 7 s (by unfold SX; omega)]
    · rw [if_neg (by decide), if_pos (by decide)]
      refine wp_some ⟨sm_refl, CB_step hC, fun m' hI' hsm => ?_⟩
      rw [hM m' hI', if_neg (by decide), if_neg (by decide)]
      exact wp_some ⟨rfl, sm_refl⟩
    · rw [if_neg (by decide), if_neg (by decide)]
      rcases u2 with ⟨p, p1, p2, p3, rfl⟩ | ⟨p1, rfl⟩
      · rw [if_neg (fun e => absurd (by rw [e]; decide) (nI_pos (n := p) (by omega)))]
        refine wp_bind (wp_mono (x_at (IV_XR hI (CB_N hC k) (by unfold oST at hb; omega)) p1) fun q hq => ?_)
        obtain ⟨q1, q2, q3⟩ := hq
        have hgo : ∀ m', IV L xs n k ρ P nb m' → oj_sm SX m m' → oj_wp (f_X11_of (nI s) (nI 2) m') fun r => (if lw P (m.1 7) (m.1 6 5) ρ k p then 1 else 0) = r.1 ∧ oj_sm SM m' r.2 := fun m' hI' hsm => by
          rw [hM m' hI', if_pos (by decide)]
          refine wp_bind (wp_mono (IV_see hI') fun r hr => ?_)
          obtain ⟨r1, r2⟩ := hr
          rw [if_pos (nI_0le (by omega))]
          refine wp_bind (wp_mono (m_at r2 p1) fun w hw => ?_)
          obtain ⟨w1, w2⟩ := hw
          rw [SE_42 r1, SE_415 r1, both_lw hI' hsm (fun q hq => (h8 q hq).2.2) p1] at w1
          have hsM : oj_sm SM m' w.2 := sm_trans (sm_SE r1) (sm_MC w2)
          rw [w1]
          by_cases hl : lw P (m.1 7) (m.1 6 5) ρ k p = true
          · rw [if_pos hl, if_neg (by decide)]; exact wp_some ⟨rfl, hsM⟩
          · rw [if_neg hl, if_pos rfl]; exact wp_some ⟨rfl, hsM⟩
        rw [q1]
        by_cases hl : lw P (m.1 7) (m.1 6 5) ρ k p = true
        · rw [if_pos hl, if_neg (by decide)]
          rw [if_pos hl] at hgo
          exact wp_some ⟨sm_XC q2, CN_step q3, fun m' hI' hsm => hgo m' hI' hsm⟩
        · rw [if_neg hl, if_pos rfl]
          rw [if_neg hl] at hgo
          exact wp_some ⟨sm_XC q2, CN_step q3, fun m' hI' hsm => hgo m' hI' hsm⟩
      · rw [if_pos rfl]
        refine wp_some ⟨sm_refl, CB_step hC, fun m' hI' hsm => ?_⟩
        rw [hM m' hI', if_pos (by decide)]
        refine wp_bind (wp_mono (IV_see hI') fun r hr => ?_)
        rw [if_neg (by decide)]
        exact wp_some ⟨rfl, sm_SE hr.1⟩
  · have hX : f_X10_of v1 (nI i) m = some (-1, m) := by
      unfold f_X10_of
      rw [x_hasN h3 (by omega) hN, o_bs, if_pos rfl, o_bs, if_pos rfl, o_bs, if_pos rfl]
      rcases (by omega : i = 0 ∨ i = 1 ∨ i = 2) with rfl | rfl | rfl
      · rw [if_pos (by decide)]
      · rw [if_neg (by decide), if_pos (by decide)]
      · rw [if_neg (by decide), if_neg (by decide), if_pos (by decide)]
    refine wp_eq hX ⟨sm_refl, CB_step hC, fun m' hI' hsm => ?_⟩
    unfold f_X11_of
    rw [hin, o_bs, if_neg i10, m_stoneN hI'.1.2.2.2.1 (by omega) hN, o_bs, if_pos rfl]
    exact wp_some ⟨rfl, sm_refl⟩
theorem op_of (v1 v2 : Int32) : OP (f_X10_of v1 v2) (f_X11_of v1 v2) := by
  rcases r_cases v2 3 with ⟨i, hi, rfl⟩ | hN
  · exact op_of_N hi v1
  have n0 : ¬ v2 = 0 := hN 0 (by decide)
  have n1 : ¬ v2 = 1 := hN 1 (by decide)
  have n2 : ¬ v2 = 2 := hN 2 (by decide)
  have hin : ∀ m', f_X11_in v2 0 2 m' = some (0, m') := fun m' => m_inK (N := 3) (by decide) (by decide) hN m'
  have hx : ∀ m, f_X10_of v1 v2 m = if v2 = 10 then (f_X4_isPlace v1 m).bind fun q7 => if q7.1 = 0 then some ((-1), q7.2) else (f_X10_at 8 v1 q7.2).bind fun q8 => some (q8.1, q8.2) else if v1 = 0 then (f_X10_ofAll v2 m).bind fun q9 => some (q9.1, q9.2) else some ((-1), m) := fun m => by
    unfold f_X10_of
    rw [if_neg n0, if_neg n1, if_neg n2]
  have hm : ∀ m, f_X11_of v1 v2 m = if v2 = 10 then (f_X11_isPlace v1 m).bind fun q4 => if q4.1 = 0 then some ((-1), q4.2) else (oj_ld 0 q4.2 43 v1).bind fun w5 => some (w5, q4.2) else if v1 = 0 then (f_X11_in v2 20 23 m).bind fun q2 => if q2.1 = 0 then some ((-1), q2.2) else if v2 = 20 then some ((q2.2.1 41 5), q2.2) else if v2 = 21 then (f_X11_isRowLawful q2.2).bind fun q3 => if q3.1 = 0 then some (0, q3.2) else some (1, q3.2) else if v2 = 22 then some ((q2.2.1 41 6), q2.2) else some ((q2.2.1 41 7), q2.2) else some ((-1), m) := fun m => by
    unfold f_X11_of
    rw [hin, o_bs, if_pos rfl]
  by_cases k10 : v2 = 10
  · refine OP_same fun L xs n k ρ P nb m hI => ?_
    obtain ⟨⟨h1, h2, h3, h4, h5, h6, h7, h8, h9, h10, h11, h12, h13, h14, h15⟩, _⟩ := hI
    rw [hx, hm, if_pos k10, if_pos k10]
    rcases r_cases v1 k with ⟨s, hs, rfl⟩ | hN1
    · rw [x_placeY h5 (by omega) hs, m_placeY h6 (by omega) hs, o_bs, o_bs, if_neg i10, if_neg i10, p_at1 ar_8 (by omega), oj_ar_ld ar_43 (by omega), o_bs, o_bs, (h8 s hs).1, (h8 s hs).2.1]
      exact ⟨_, rfl, rfl⟩
    · rw [x_placeN h5 (by omega) hN1, m_placeN h6 (by omega) hN1, o_bs, o_bs, if_pos rfl, if_pos rfl]
      exact ⟨_, rfl, rfl⟩
  by_cases k1 : v1 = 0
  · by_cases k21 : v2 = 21
    · refine OP_ask fun L xs n k ρ P nb b m hI hC hb => ?_
      rw [hx, if_neg k10, if_pos k1]
      unfold f_X10_ofAll
      rw [k21, if_neg (by decide), if_pos rfl, hI.1.2.2.2.2.1]
      refine wp_bind (wp_bind (wp_mono (x_all (IV_XR hI (CB_N hC k) (by unfold oST at hb; omega)) (by decide)) fun q hq => ?_))
      obtain ⟨q1, q2, q3⟩ := hq
      have hgo : ∀ m', IV L xs n k ρ P nb m' → oj_sm SX m m' → oj_wp (f_X11_of v1 v2 m') fun r => (if lwA (lw P (m.1 7) (m.1 6 5) ρ k) k then 1 else 0) = r.1 ∧ oj_sm SM m' r.2 := fun m' hI' hsm => by
        rw [hm, if_neg k10, if_pos k1, k21, p_in1 (by decide) (by decide), o_bs, if_neg i10, if_neg (by decide), if_pos rfl]
        refine wp_bind (wp_mono (m_rowLawful hI') fun r hr => ?_)
        obtain ⟨r1, r2⟩ := hr
        rw [lwA_congr fun p hp => both_lw hI' hsm (fun q hq => (hI.1.2.2.2.2.2.2.2.1 q hq).2.2) hp] at r1
        rw [r1]
        by_cases hl : lwA (lw P (m.1 7) (m.1 6 5) ρ k) k = true
        · rw [if_pos hl, if_neg (by decide)]; exact wp_some ⟨rfl, sm_SE r2⟩
        · rw [if_neg hl, if_pos rfl]; exact wp_some ⟨rfl, sm_SE r2⟩
      rw [k21] at hgo
      rw [q1]
      by_cases hl : lwA (lw P (m.1 7) (m.1 6 5) ρ k) k = true
      · rw [if_pos hl, if_neg (by decide)]
        rw [if_pos hl] at hgo
        exact wp_some (wp_some ⟨sm_XC q2, CN_step q3, hgo⟩)
      · rw [if_neg hl, if_pos rfl]
        rw [if_neg hl] at hgo
        exact wp_some (wp_some ⟨sm_XC q2, CN_step q3, hgo⟩)
    · refine OP_same fun L xs n k ρ P nb m hI => ?_
      obtain ⟨⟨h1, h2, h3, h4, h5, h6, h7, h8, h9, h10, h11, h12, h13, h14, h15⟩, _⟩ := hI
      rw [hx, hm, if_neg k10, if_neg k10, if_pos k1, if_pos k1]
      unfold f_X10_ofAll
      by_cases k20 : v2 = 20
      · rw [if_pos k20, k20, p_in1 (by decide) (by decide), o_bs, o_bs, if_neg i10, if_pos rfl, h10]
        exact ⟨_, rfl, rfl⟩
      by_cases k22 : v2 = 22
      · rw [if_neg k20, if_neg k21, if_pos k22, k22, p_in1 (by decide) (by decide), o_bs, o_bs, if_neg i10, if_neg (by decide), if_neg (by decide), if_pos rfl, h12]
        exact ⟨_, rfl, rfl⟩
      by_cases k23 : v2 = 23
      · rw [if_neg k20, if_neg k21, if_neg k22, if_pos k23, k23, p_in1 (by decide) (by decide), o_bs, o_bs, if_neg i10, if_neg (by decide), if_neg (by decide), if_neg (by decide), h13]
        exact ⟨_, rfl, rfl⟩
      rw [if_neg k20, if_neg k21, if_neg k22, if_neg k23, o_bs, p_in0 ?_, o_bs, if_pos rfl]
      · exact ⟨_, rfl, rfl⟩
      · rintro ⟨a, c⟩
        have hv : ¬ v2 < 0 := Int32.not_lt.mpr (Int32.le_trans (by decide) a)
        obtain ⟨j, hj, rfl⟩ := nI_of hv
        have a' := (nI_leI (a := 20) (by decide) hj).mp a
        have c' := (nI_leI (b := 23) hj (by decide)).mp c
        rcases (by omega : j = 20 ∨ j = 21 ∨ j = 22 ∨ j = 23) with rfl | rfl | rfl | rfl
        · exact k20 rfl
        · exact k21 rfl
        · exact k22 rfl
        · exact k23 rfl
  · refine OP_same fun L xs n k ρ P nb m hI => ?_
    rw [hx, hm, if_neg k10, if_neg k10, if_neg k1, if_neg k1]
    exact ⟨_, rfl, rfl⟩
