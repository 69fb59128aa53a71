/-! shelves: tools, keep, row -/
def oj_al8 (a n : Nat) : Prop := (∃ rs, ej_sh[a]? = some (53, n, rs)) ∧ n < 2 ^ 31
theorem ar_40 : oj_al8 40 360 := ⟨⟨_, sh_40⟩, by decide⟩
theorem ar_68 : oj_al8 68 360 := ⟨⟨_, sh_68⟩, by decide⟩
theorem ar_69 : oj_al8 69 60 := ⟨⟨_, sh_69⟩, by decide⟩
theorem ol_ln {a n : Nat} (h : oj_al8 a n) (m : ej_M) : oj_ln m a = some (nI n) := by
  obtain ⟨⟨rs, h1⟩, h2⟩ := h
  unfold oj_ln ej_al
  simp only [h1]
  rfl
theorem ol_ld {a n k : Nat} (h : oj_al8 a n) (hk : k < n) (m : ej_M) : oj_ll m a (nI k) = some (m.2 a k) := by
  obtain ⟨⟨rs, h1⟩, h2⟩ := h
  unfold oj_ll
  simp only [h1]
  have hk' : k < 2 ^ 31 := by omega
  rw [nI_clamp hk', if_pos ⟨trivial, fun q => q.elim (fun z => nI_pos hk' z) (fun z => by omega)⟩]
theorem ol_st {a n k : Nat} (h : oj_al8 a n) (hk : k < n) (m : ej_M) (v : Int64) : oj_sl m a (nI k) v = some (ej_wl m a k v) := by
  obtain ⟨⟨rs, h1⟩, h2⟩ := h
  unfold oj_sl
  simp only [h1]
  have hk' : k < 2 ^ 31 := by omega
  rw [nI_clamp hk', if_pos ⟨trivial, fun q => q.elim (fun z => nI_pos hk' z) (fun z => by omega)⟩]
theorem wl_1 {m : ej_M} {a k : Nat} {v : Int64} : (ej_wl m a k v).1 = m.1 := rfl
theorem wl_2 {m : ej_M} {a k b j : Nat} {v : Int64} : (ej_wl m a k v).2 b j = if b = a ∧ j = k then v else m.2 b j := by
  show (if b = a then vp_updL (m.2 b) k v else m.2 b) j = _
  by_cases h : b = a
  · rw [if_pos h]
    show (if j = k then v else m.2 b j) = _
    by_cases e : j = k
    · rw [if_pos e, if_pos ⟨h, e⟩]
    · rw [if_neg e, if_neg (fun q => e q.2)]
  · rw [if_neg h, if_neg (fun q => h q.1)]
theorem m_shelfY {m : ej_M} {i : Nat} (h : i < 6) : f_X11_isShelf (nI i) m = some (1, m) := by
  unfold f_X11_isShelf; rw [m_inKY (N := 6) h (by decide) (by decide), o_bs]; exact rz_1 m
theorem m_shelfN {m : ej_M} {v : Int32} (h : ∀ i, i < 6 → v ≠ nI i) : f_X11_isShelf v m = some (0, m) := by
  unfold f_X11_isShelf; rw [m_inK (N := 6) (by decide) (by decide) h, o_bs]; exact rz_0 m
theorem sh_ix (s i : Nat) : nI s * 60 + nI i = nI (60 * s + i) := by
  rw [show (60 : Int32) = nI 60 from rfl, nI_mul, nI_add, Nat.mul_comm]
theorem sh_ix2 (s i : Nat) : 60 * nI s + nI i = nI (60 * s + i) := by
  rw [show (60 : Int32) = nI 60 from rfl, nI_mul, nI_add]
theorem x_valueAt {s i : Nat} (hs : s < 6) (hi : i < 60) (m : ej_M) : f_X6_valueAt (nI s) (nI i) m = some (m.2 40 (60 * s + i), m) := by
  unfold f_X6_valueAt
  rw [sh_ix, if_neg (nI_pos (by omega)), ol_ln ar_40, o_bs, if_neg (fun q => by have := (nI_leI (by omega) (by omega)).mp q; omega), ol_ld ar_40 (by omega), o_bs]
theorem x_store {s i : Nat} (hs : s < 6) (hi : i < 60) (v : Int64) (m : ej_M) : f_X6_store (nI s) (nI i) v m = some ((), ej_wl m 40 (60 * s + i) v) := by
  unfold f_X6_store
  rw [sh_ix, if_neg (nI_pos (by omega)), ol_ln ar_40, o_bs, if_neg (fun q => by have := (nI_leI (by omega) (by omega)).mp q; omega), ol_st ar_40 (by omega), o_bs]
/-- the first i elements of a shelf emptied -/
def l_z (m : ej_M) (a s i : Nat) : ej_M := (m.1, fun b j => if b = a ∧ 60 * s ≤ j ∧ j < 60 * s + i then 0 else m.2 b j)
theorem l_z_1 {m : ej_M} {a s i : Nat} : (l_z m a s i).1 = m.1 := rfl
theorem l_z_2 {m : ej_M} {a s i b j : Nat} : (l_z m a s i).2 b j = if b = a ∧ 60 * s ≤ j ∧ j < 60 * s + i then 0 else m.2 b j := rfl
theorem l_z_0 {m : ej_M} {a s : Nat} : l_z m a s 0 = m := by
  refine Prod.ext rfl (funext fun b => funext fun j => ?_)
  rw [l_z_2, if_neg (by omega)]
theorem l_z_s {m : ej_M} {a s i : Nat} : ej_wl (l_z m a s i) a (60 * s + i) 0 = l_z m a s (i + 1) := by
  refine Prod.ext rfl (funext fun b => funext fun j => ?_)
  rw [wl_2, l_z_2, l_z_2]
  by_cases e : b = a ∧ j = 60 * s + i
  · rw [if_pos e, if_pos ⟨e.1, by omega, by omega⟩]
  · rw [if_neg e]
    by_cases e2 : b = a ∧ 60 * s ≤ j ∧ j < 60 * s + i
    · rw [if_pos e2, if_pos ⟨e2.1, by omega, by omega⟩]
    · rw [if_neg e2, if_neg (by omega)]
theorem x_hold {s : Nat} (hs : s < 6) (v2 v3 : Int32) (m : ej_M) : f_X6_hold (nI s) v2 v3 m = some ((), l_z (oj_row (oj_row m 38 (upd (m.1 38) s v2)) 39 (upd (m.1 39) s v3)) 40 s 60) := by
  unfold f_X6_hold f_X6_hold_L21
  rw [p_lay1 ar_38 hs, o_bs]
  simp only
  rw [p_lay1 ar_39 hs, o_bs, oj_row_n (by decide)]
  simp only
  generalize oj_row (oj_row m 38 (upd (m.1 38) s v2)) 39 (upd (m.1 39) s v3) = m1
  refine l_up (fun i => l_z m1 40 s i) (n := 60) (i0 := 0) (by omega) (by omega) l_z_0 (fun i _ hi => ?_) ?_
  · simp only
    unfold f_X6_hold_L21b
    rw [if_neg (show ¬ 60 ≤ nI i from fun q => by have := (nI_leI (a := 60) (by decide) (by omega)).mp q; omega), x_store hs hi, o_bs, l_z_s, nI_1]
  · simp only
    unfold f_X6_hold_L21b
    rw [if_pos (show (60 : Int32) ≤ nI 60 from Int32.le_refl _)]
theorem m_empty {s : Nat} (hs : s < 6) (m : ej_M) : f_X11_row_L54 (nI s) (60 * nI s) m = some (1, l_z m 68 s 60) := by
  unfold f_X11_row_L54
  rw [show (60 : Int32) * nI s = nI (60 * s) from nI_mul 60 s]
  refine (l_up (fun i => l_z m 68 s (i - 60 * s)) (n := 60 * s + 60) (i0 := 60 * s) (e := 1) (by omega) (by omega) ?_ (fun i h1 h2 => ?_) ?_).trans ?_
  · simp only [Nat.sub_self]; exact l_z_0
  · simp only
    unfold f_X11_row_L54b
    rw [show (60 * nI s + 60 : Int32) = nI (60 * s + 60) from sh_ix2 s 60, if_neg (fun q => by have := (nI_leI (by omega) (by omega)).mp q; omega), ol_st ar_68 (by omega), o_bs, nI_1]
    have h := l_z_s (m := m) (a := 68) (s := s) (i := i - 60 * s)
    rw [show 60 * s + (i - 60 * s) = i by omega] at h
    rw [h, show i - 60 * s + 1 = i + 1 - 60 * s by omega]
  · simp only
    unfold f_X11_row_L54b
    rw [show (60 * nI s + 60 : Int32) = nI (60 * s + 60) from sh_ix2 s 60, if_pos (Int32.le_refl _)]
  · rw [Nat.add_sub_cancel_left]
theorem IV_shelf {L : Nat} {xs : Nat → Int32} {n k : Nat} {ρ : Nat → Nat} {P : Option (List (List Int32 × List Int32))} {nb : Nat} {m m' : ej_M} (hI : IV L xs n k ρ P nb m) (hs : ∀ a j, ¬ sIF a j → m'.1 a j = m.1 a j) (hF : IF nb m') : IV L xs n k ρ P nb m' := by
  obtain ⟨h1, h2, h3, h4, h5, h6, h7⟩ := hI
  refine ⟨IA_fr (fun a j q => hs a j ?_) h1, IB_fr (Nat.le_refl _) (fun a j q => hs a j ?_) h2, IC_fr (Nat.le_refl _) (fun a j q => hs a j ?_) h3, ID_fr (fun a j q => hs a j ?_) h4, IE_fr (fun a j q => hs a j ?_) h5, hF, IG_fr (fun a j q => hs a j ?_) h7⟩
  · unfold sIA at q; unfold sIF; omega
  · unfold sIB at q; unfold sIF; omega
  · unfold sIC at q; unfold sIF; omega
  · unfold sID at q; unfold sIF; omega
  · unfold sIE at q; unfold sIF; omega
  · unfold sIF; omega
theorem CB_shelf {P : Option (List (List Int32 × List Int32))} {b : Nat} {m m' : ej_M} (hs : ∀ a j, ¬ sIF a j → m'.1 a j = m.1 a j) (h : CB P b m) : CB P (b + oST) m' := by
  refine CB_congr (CB_step h) (fun i _ => hs 10 i ?_) (hs 6 14 ?_) (hs 6 15 ?_) (fun i _ => hs 7 i ?_) <;> · unfold sIF; omega
theorem IF_one {nb s : Nat} {m m' : ej_M} (h : IF nb m) (hk : ∀ q, q < 6 → q ≠ s → m'.1 38 q = m.1 38 q ∧ m'.1 39 q = m.1 39 q ∧ m'.1 66 q = m.1 66 q ∧ m'.1 67 q = m.1 67 q ∧ ∀ i, i < 60 → m'.2 68 (60 * q + i) = m.2 68 (60 * q + i) ∧ m'.2 40 (60 * q + i) = m.2 40 (60 * q + i)) (hs : IFs nb s m') : IF nb m' := by
  intro q hq
  by_cases e : q = s
  · rw [e]; exact hs
  · obtain ⟨k1, k2, k3, k4, k5⟩ := hk q hq e
    unfold IFs
    rw [k1, k2, k3, k4]
    rcases h q hq with a | ⟨b, a⟩ | ⟨t, l, a1, a2, a3, a4, a5, a6, a7⟩
    · exact Or.inl a
    · exact Or.inr (Or.inl ⟨b, a⟩)
    · refine Or.inr (Or.inr ⟨t, l, a1, a2, a3, a4, a5, a6, fun i hi => ?_⟩)
      rw [(k5 i hi).1, (k5 i hi).2]; exact a7 i hi
theorem keep_go {s : Nat} {L : Nat} {xs : Nat → Int32} {n k b : Nat} {ρ : Nat → Nat} {P : Option (List (List Int32 × List Int32))} {nb : Nat} {m : ej_M} (hs : s < 6) {c v : Int32} (hc : (c = -2 ∧ v = -1) ∨ (c = -1 ∧ ∃ b, b < nb ∧ v = nI b)) (hI : IV L xs n k ρ P nb m) (hC : CB P b m) (hx : ∀ m, m.1 34 1 = nI nb → f_X10_keep (nI s) v m = some (1, l_z (oj_row (oj_row m 38 (upd (m.1 38) s c)) 39 (upd (m.1 39) s v)) 40 s 60)) (hm : ∀ m, m.1 41 43 = nI nb → f_X11_keep (nI s) v m = some (1, oj_row m 66 (upd (m.1 66) s v))) :
    oj_wp (f_X10_keep (nI s) v m) fun q => (q.2.1 4000 = m.1 4000 ∧ q.2.1 4001 = m.1 4001) ∧ oj_wp (f_X11_keep (nI s) v q.2) fun r => q.1 = r.1 ∧ Inv L xs (b + oST) r.2 := by
  rw [hx m hI.2.2.2.2.1.2.1]
  refine wp_some ⟨⟨?_, ?_⟩, ?_⟩
  · simp only [l_z_1, oj_row_rd, reduceIte, Nat.reduceEqDiff]
  · simp only [l_z_1, oj_row_rd, reduceIte, Nat.reduceEqDiff]
  simp only
  rw [hm _ (by simp only [l_z_1, oj_row_rd, reduceIte, Nat.reduceEqDiff]; exact hI.2.2.2.2.1.2.2.1)]
  have hf : ∀ a j, ¬ sIF a j → (oj_row (l_z (oj_row (oj_row m 38 (upd (m.1 38) s c)) 39 (upd (m.1 39) s v)) 40 s 60) 66 (upd ((l_z (oj_row (oj_row m 38 (upd (m.1 38) s c)) 39 (upd (m.1 39) s v)) 40 s 60).1 66) s v)).1 a j = m.1 a j := fun a j q => by
    have : a ≠ 66 ∧ a ≠ 38 ∧ a ≠ 39 := by unfold sIF at q; omega
    rw [oj_row_n this.1, l_z_1, oj_row_n this.2.2, oj_row_n this.2.1]
  refine wp_some ⟨rfl, n, k, ρ, P, nb, IV_shelf hI hf (IF_one (s := s) hI.2.2.2.2.2.1 (fun q hq e => ?_) ?_), CB_shelf hf hC⟩
  · simp only [l_z_1, oj_row_2, oj_row_rd, upd_rd, reduceIte, Nat.reduceEqDiff, if_neg e]
    refine ⟨trivial, trivial, trivial, trivial, fun i hi => ⟨?_, ?_⟩⟩
    · rw [l_z_2, if_neg (by omega)]; rfl
    · rw [l_z_2, if_neg (by omega)]; rfl
  · unfold IFs
    simp only [l_z_1, oj_row_rd, upd_rd, reduceIte, Nat.reduceEqDiff]
    rcases hc with ⟨h1, h2⟩ | ⟨h1, b', h2, h3⟩
    · exact Or.inl ⟨h1, h2⟩
    · exact Or.inr (Or.inl ⟨b', h2, h1, h3, h3⟩)
theorem op_keep (v1 v2 : Int32) : OP (f_X10_keep v1 v2) (f_X11_keep v1 v2) := by
  rcases r_cases v1 6 with ⟨s, hs, rfl⟩ | hN
  · intro L xs b m ⟨n, k, ρ, P, nb, hI, hC⟩ hb
    have hnb := hI.2.2.2.2.1.1
    by_cases e : v2 = -1
    · refine keep_go hs (c := -2) (Or.inl ⟨rfl, e⟩) hI hC (fun m h => ?_) (fun m h => ?_)
      · unfold f_X10_keep
        rw [x_shelfY hs, o_bs, if_neg i10, if_pos e]
        unfold f_X10_keep_B29 f_X10_keep_B45
        rw [if_pos e, x_hold hs, o_bs]
      · unfold f_X11_keep f_X11_keep_B22
        rw [m_shelfY hs, o_bs, if_neg i10, if_pos e, oj_ar_st ar_66 hs, o_bs]
    · rcases r_cases v2 nb with ⟨c, hc, rfl⟩ | hN2
      · refine keep_go hs (c := -1) (Or.inr ⟨rfl, c, hc, rfl⟩) hI hC (fun m h => ?_) (fun m h => ?_)
        · unfold f_X10_keep
          rw [x_shelfY hs, o_bs, if_neg i10, if_neg e, x_bodyY h (by omega) hc, o_bs, if_neg i10]
          unfold f_X10_keep_B29 f_X10_keep_B45
          rw [if_neg e, x_hold hs, o_bs]
        · unfold f_X11_keep f_X11_keep_B22
          rw [m_shelfY hs, o_bs, if_neg i10, if_neg e, m_bodyY h (by omega) hc, o_bs, if_neg i10, oj_ar_st ar_66 hs, o_bs]
      · have hx : f_X10_keep (nI s) v2 m = some (-1, m) := by
          unfold f_X10_keep
          rw [x_shelfY hs, o_bs, if_neg i10, if_neg e, x_bodyN hI.2.2.2.2.1.2.1 (by omega) hN2, o_bs, if_pos rfl]
        have hm : f_X11_keep (nI s) v2 m = some (-1, m) := by
          unfold f_X11_keep
          rw [m_shelfY hs, o_bs, if_neg i10, if_neg e, m_bodyN hI.2.2.2.2.1.2.2.1 (by omega) hN2, o_bs, if_pos rfl]
        rw [hx]
        refine wp_some ⟨⟨rfl, rfl⟩, ?_⟩
        simp only
        rw [hm]
        exact wp_some ⟨rfl, n, k, ρ, P, nb, hI, CB_step hC⟩
  · refine OP_no (v := -1) (fun m => ?_) (fun m => ?_)
    · unfold f_X10_keep
      rw [x_shelfN hN, o_bs, if_pos rfl]
    · unfold f_X11_keep
      rw [m_shelfN hN, o_bs, if_pos rfl]
theorem op_row (v1 v2 v3 : Int32) : OP (f_X10_row v1 v2 v3) (f_X11_row v1 v2 v3) := by
  rcases r_cases v1 6 with ⟨s, hs, rfl⟩ | hN
  · rcases r_cases v2 5 with ⟨t, ht, rfl⟩ | hN2
    · have ht0 : ¬ nI t < 0 := nI_pos (by omega)
      have ht5 : ¬ (5 : Int32) ≤ nI t := fun q => by have := (nI_leI (a := 5) (by decide) (by omega)).mp q; omega
      have hin : ∀ m, f_X11_in (nI t) 0 4 m = some (1, m) := fun m => m_inKY (N := 5) ht (by decide) (by decide) m
      by_cases h60 : v3 ≤ 60
      · by_cases h0 : 0 ≤ v3
        · obtain ⟨l, hl, rfl⟩ := nI_of (Int32.not_lt.mpr h0)
          have hl60 : l ≤ 60 := (nI_leI (b := 60) hl (by decide)).mp h60
          intro L xs b m ⟨n, k, ρ, P, nb, hI, hC⟩ hb
          have hx : f_X10_row (nI s) (nI t) (nI l) m = some (1, l_z (oj_row (oj_row m 38 (upd (m.1 38) s (nI t))) 39 (upd (m.1 39) s (nI l))) 40 s 60) := by
            unfold f_X10_row
            rw [x_shelfY hs, o_bs, if_neg i10, if_neg ht0, if_neg ht5, if_pos h60, if_pos h0, x_hold hs, o_bs]
          rw [hx]
          refine wp_some ⟨⟨?_, ?_⟩, ?_⟩
          · simp only [l_z_1, oj_row_rd, reduceIte, Nat.reduceEqDiff]
          · simp only [l_z_1, oj_row_rd, reduceIte, Nat.reduceEqDiff]
          simp only
          generalize hX : l_z (oj_row (oj_row m 38 (upd (m.1 38) s (nI t))) 39 (upd (m.1 39) s (nI l))) 40 s 60 = mx
          have hm : f_X11_row (nI s) (nI t) (nI l) mx = some (1, l_z (oj_row (oj_row mx 66 (upd (mx.1 66) s (-2 - nI t))) 67 (upd (mx.1 67) s (nI l))) 68 s 60) := by
            unfold f_X11_row
            rw [m_shelfY hs, o_bs, if_neg i10, hin, o_bs, if_neg i10, if_pos h60, if_pos h0, oj_ar_st ar_66 hs, o_bs, oj_ar_st ar_67 hs, o_bs, oj_row_n (by decide), m_empty hs]
          rw [hm]
          have hf : ∀ a j, ¬ sIF a j → (l_z (oj_row (oj_row mx 66 (upd (mx.1 66) s (-2 - nI t))) 67 (upd (mx.1 67) s (nI l))) 68 s 60).1 a j = m.1 a j := fun a j q => by
            have : a ≠ 66 ∧ a ≠ 38 ∧ a ≠ 39 ∧ a ≠ 67 := by unfold sIF at q; omega
            rw [l_z_1, oj_row_n this.2.2.2, oj_row_n this.1, ← hX, l_z_1, oj_row_n this.2.2.1, oj_row_n this.2.1]
          have y38 : mx.1 38 = upd (m.1 38) s (nI t) := by rw [← hX]; simp only [l_z_1, oj_row_rd, reduceIte, Nat.reduceEqDiff]
          have y39 : mx.1 39 = upd (m.1 39) s (nI l) := by rw [← hX]; simp only [l_z_1, oj_row_rd, reduceIte, Nat.reduceEqDiff]
          have y66 : mx.1 66 = m.1 66 := by rw [← hX]; simp only [l_z_1, oj_row_rd, reduceIte, Nat.reduceEqDiff]
          have y67 : mx.1 67 = m.1 67 := by rw [← hX]; simp only [l_z_1, oj_row_rd, reduceIte, Nat.reduceEqDiff]
          have y40 : ∀ c j, mx.2 c j = if c = 40 ∧ 60 * s ≤ j ∧ j < 60 * s + 60 then 0 else m.2 c j := fun c j => by rw [← hX]; rfl
          refine wp_some ⟨rfl, n, k, ρ, P, nb, IV_shelf hI hf (IF_one (s := s) hI.2.2.2.2.2.1 (fun q hq e => ?_) ?_), CB_shelf hf hC⟩
          · simp only [l_z_1, oj_row_rd, y38, y39, y66, y67, upd_rd, reduceIte, Nat.reduceEqDiff, if_neg e]
            refine ⟨trivial, trivial, trivial, trivial, fun i hi => ⟨?_, ?_⟩⟩
            · rw [l_z_2, if_neg (by omega), oj_row_2, oj_row_2, y40, if_neg (by omega)]
            · rw [l_z_2, if_neg (by omega), oj_row_2, oj_row_2, y40, if_neg (by omega)]
          · refine Or.inr (Or.inr ⟨t, l, ht, hl60, ?_, ?_, ?_, ?_, fun i hi => ?_⟩)
            · simp only [l_z_1, oj_row_rd, y38, upd_rd, reduceIte, Nat.reduceEqDiff]
            · simp only [l_z_1, oj_row_rd, upd_rd, reduceIte, Nat.reduceEqDiff]
            · simp only [l_z_1, oj_row_rd, y39, upd_rd, reduceIte, Nat.reduceEqDiff]
            · simp only [l_z_1, oj_row_rd, upd_rd, reduceIte, Nat.reduceEqDiff]
            · rw [l_z_2, if_pos ⟨rfl, by omega, by omega⟩, l_z_2, if_neg (by omega), oj_row_2, oj_row_2, y40, if_pos ⟨rfl, by omega, by omega⟩]
              exact ⟨rfl, fun _ => rfl⟩
        · refine OP_no (v := -14) (fun m => ?_) (fun m => ?_)
          · unfold f_X10_row
            rw [x_shelfY hs, o_bs, if_neg i10, if_neg ht0, if_neg ht5, if_pos h60, if_neg h0]
          · unfold f_X11_row
            rw [m_shelfY hs, o_bs, if_neg i10, hin, o_bs, if_neg i10, if_pos h60, if_neg h0]
      · refine OP_no (v := -1) (fun m => ?_) (fun m => ?_)
        · unfold f_X10_row
          rw [x_shelfY hs, o_bs, if_neg i10, if_neg ht0, if_neg ht5, if_neg h60]
        · unfold f_X11_row
          rw [m_shelfY hs, o_bs, if_neg i10, hin, o_bs, if_neg i10, if_neg h60]
    · refine OP_no (v := -1) (fun m => ?_) (fun m => ?_)
      · unfold f_X10_row
        rw [x_shelfY hs, o_bs, if_neg i10]
        exact x_rangeN (N := 5) (by decide) hN2
      · unfold f_X11_row
        rw [m_shelfY hs, o_bs, if_neg i10, m_inK (N := 5) (by decide) (by decide) hN2, o_bs, if_pos rfl]
  · refine OP_no (v := -1) (fun m => ?_) (fun m => ?_)
    · unfold f_X10_row
      rw [x_shelfN hN, o_bs, if_pos rfl]
    · unfold f_X11_row
      rw [m_shelfN hN, o_bs, if_pos rfl]
/-! put, element -/
def OPL (fx fm : ej_M → Option (Int64 × ej_M)) : Prop := ∀ (L : Nat) (xs : Nat → Int32) (b : Nat) (m : ej_M), Inv L xs b m → b + oST < 2 ^ 28 → oj_wp (fx m) fun q => (q.2.1 4000 = m.1 4000 ∧ q.2.1 4001 = m.1 4001) ∧ oj_wp (fm q.2) fun r => q.1 = r.1 ∧ Inv L xs (b + oST) r.2
-- what a shelf holds, seen by the class
theorem x_at38 {s : Nat} (hs : s < 6) (m : ej_M) : f_X10_at 38 (nI s) m = some (m.1 38 s, m) := p_at1 ar_38 hs m
theorem x_at39 {s : Nat} (hs : s < 6) (m : ej_M) : f_X10_at 39 (nI s) m = some (m.1 39 s, m) := p_at1 ar_39 hs m
theorem x_isEmpty {s : Nat} (hs : s < 6) (m : ej_M) : f_X6_isEmpty (nI s) m = some (if m.1 38 s = -2 then 1 else 0, m) := by
  unfold f_X6_isEmpty
  rw [x_at38 hs, o_bs]
  by_cases e : m.1 38 s = -2
  · rw [if_pos e, if_pos e]
  · rw [if_neg e, if_neg e]
theorem x_holdsBody {s : Nat} (hs : s < 6) (m : ej_M) : f_X6_holdsBody (nI s) m = some (if m.1 38 s = -1 then 1 else 0, m) := by
  unfold f_X6_holdsBody
  rw [x_at38 hs, o_bs]
  by_cases e : m.1 38 s = -1
  · rw [if_pos e, if_pos e]
  · rw [if_neg e, if_neg e]
theorem x_length {s : Nat} (hs : s < 6) (m : ej_M) : f_X6_length (nI s) m = some (if m.1 38 s < 0 then 0 else m.1 39 s, m) := by
  unfold f_X6_length
  rw [x_at38 hs, o_bs]
  by_cases e : m.1 38 s < 0
  · rw [if_pos e, if_pos e]
  · rw [if_neg e, if_neg e]
    simp only
    rw [x_at39 hs, o_bs]
def x_rr (v : Int32) : Int32 := if v = -2 then -11 else if v = -1 then -12 else 0
theorem x_refRow {s : Nat} (hs : s < 6) (m : ej_M) : f_X6_refusesRow (nI s) m = some (x_rr (m.1 38 s), m) := by
  unfold f_X6_refusesRow x_rr
  rw [x_shelfY hs, o_bs, if_neg i10]
  simp only
  rw [x_isEmpty hs, o_bs]
  by_cases e : m.1 38 s = -2
  · simp only [if_pos e]
    rw [if_neg i10]
  · simp only [if_neg e, if_true]
    rw [x_holdsBody hs, o_bs]
    by_cases e2 : m.1 38 s = -1
    · simp only [if_pos e2]
      rw [if_neg i10]
    · simp only [if_neg e2, if_true]
theorem nI_neq2 {t : Nat} (ht : t < 2 ^ 31) : ¬ nI t = (-2 : Int32) := fun e => absurd (by rw [e]; decide) (nI_pos (n := t) ht)
theorem nI_neq1 {t : Nat} (ht : t < 2 ^ 31) : ¬ nI t = (-1 : Int32) := fun e => absurd (by rw [e]; decide) (nI_pos (n := t) ht)
theorem x_rr_row {t : Nat} (ht : t < 5) : x_rr (nI t) = 0 := by
  unfold x_rr
  rw [if_neg (nI_neq2 (by omega)), if_neg (nI_neq1 (by omega))]
theorem m_srt : ∀ t, t < 5 → (-2 - nI t < 0 ∧ ¬ -2 - nI t = -1 ∧ (-2 : Int32) - (-2 - nI t) = nI t) := by decide
theorem m_srt_inj : ∀ t, t < 5 → ∀ u, u < 5 → (-2 - nI t = -2 - nI u ↔ t = u) := by decide
-- both sides look for an element
theorem sh_el {nb : Nat} {m : ej_M} (hF : IF nb m) (hnb : nb ≤ 50) (v1 v2 : Int32) :
    (∃ c : Int32, c < 0 ∧ f_X6_refusesElement v1 v2 m = some (c, m) ∧ ∀ m', m'.1 = m.1 → f_X11_whyNoPlace v1 v2 m' = some (c, m')) ∨
    ∃ s t l i, s < 6 ∧ t < 5 ∧ l ≤ 60 ∧ i < l ∧ v1 = nI s ∧ v2 = nI i ∧ m.1 38 s = nI t ∧ m.1 66 s = -2 - nI t ∧ m.1 39 s = nI l ∧ m.1 67 s = nI l
      ∧ (∀ i, i < 60 → m.2 68 (60 * s + i) = m.2 40 (60 * s + i) ∧ (t = 0 → Int32.toInt64 (Int64.toInt32 (m.2 40 (60 * s + i))) = m.2 40 (60 * s + i)))
      ∧ f_X6_refusesElement v1 v2 m = some (0, m) ∧ ∀ m', m'.1 = m.1 → f_X11_whyNoPlace v1 v2 m' = some (0, m') := by
  rcases r_cases v1 6 with ⟨s, hs, rfl⟩ | hN
  · have hM : ∀ m' : ej_M, m'.1 = m.1 → f_X11_whyNoPlace (nI s) v2 m' = if m.1 66 s = -1 then some (-11, m') else if m.1 66 s < 0 then (f_X11_in v2 0 (m.1 67 s - 1) m').bind fun q5 => if q5.1 = 0 then some (-13, q5.2) else some (0, q5.2) else some (-12, m') := fun m' e => by
      unfold f_X11_whyNoPlace
      rw [m_shelfY hs, o_bs, if_neg i10]
      simp only
      rw [oj_ar_ld ar_66 hs, o_bs, oj_ar_ld ar_67 hs, o_bs, o_bs, e]
    have hX : f_X6_refusesElement (nI s) v2 m = if x_rr (m.1 38 s) = 0 then (if v2 < 0 then some (-13, m) else if (if m.1 38 s < 0 then 0 else m.1 39 s) ≤ v2 then some (-13, m) else some (0, m)) else some (x_rr (m.1 38 s), m) := by
      unfold f_X6_refusesElement
      rw [x_refRow hs, o_bs]
      simp only
      rw [x_length hs, o_bs]
    rcases hF s hs with ⟨a1, a2⟩ | ⟨b, a1, a2, a3, a4⟩ | ⟨t, l, a1, a2, a3, a4, a5, a6, a7⟩
    · refine Or.inl ⟨-11, by decide, ?_, fun m' e => ?_⟩
      · rw [hX, a1]; rfl
      · rw [hM m' e, a2, if_pos rfl]
    · refine Or.inl ⟨-12, by decide, ?_, fun m' e => ?_⟩
      · rw [hX, a2]; rfl
      · rw [hM m' e, a4, if_neg (nI_neq1 (by omega)), if_neg (nI_pos (by omega))]
    · obtain ⟨b1, b2, b3⟩ := m_srt t a1
      rw [a3, x_rr_row a1, if_pos rfl, if_neg (nI_pos (by omega)), a5] at hX
      replace hM : ∀ m' : ej_M, m'.1 = m.1 → f_X11_whyNoPlace (nI s) v2 m' = (f_X11_in v2 0 (nI l - 1) m').bind fun q5 => if q5.1 = 0 then some (-13, q5.2) else some (0, q5.2) := fun m' e => by rw [hM m' e, a4, if_neg b2, if_pos b1, a6]
      rcases r_cases v2 l with ⟨i, hi, rfl⟩ | hN2
      · refine Or.inr ⟨s, t, l, i, hs, a1, a2, hi, rfl, rfl, a3, a4, a5, a6, a7, ?_, fun m' e => ?_⟩
        · rw [hX]; exact x_rangeY hi (by omega)
        · rw [hM m' e, m_inY hi (by omega), o_bs, if_neg i10]
      · refine Or.inl ⟨-13, by decide, ?_, fun m' e => ?_⟩
        · rw [hX]; exact x_rangeN (by omega) hN2
        · rw [hM m' e, m_inN (by omega) hN2, o_bs, if_pos rfl]
  · refine Or.inl ⟨-1, by decide, ?_, fun m' e => ?_⟩
    · unfold f_X6_refusesElement f_X6_refusesRow
      rw [x_shelfN hN, o_bs, if_pos rfl, o_bs, if_neg (show ¬ (-1 : Int32) = 0 by decide)]
    · unfold f_X11_whyNoPlace
      rw [m_shelfN hN, o_bs, if_pos rfl]
theorem neg_ne0 {c : Int32} (h : c < 0) : ¬ c = 0 := fun e => by subst e; exact absurd h (by decide)
theorem neg_nle {c : Int32} (h : c < 0) : ¬ 0 ≤ c := fun e => absurd e (Int32.not_le.mpr h)
theorem op_element (v1 v2 : Int32) : OPL (f_X10_element v1 v2) (f_X11_element v1 v2) := by
  intro L xs b m ⟨n, k, ρ, P, nb, hI, hC⟩ hb
  have hF := hI.2.2.2.2.2.1
  have hnb := hI.2.2.2.2.1.1
  unfold f_X10_element
  rcases sh_el hF hnb v1 v2 with ⟨c, c1, c2, c3⟩ | ⟨s, t, l, i, hs, ht, hl, hi, rfl, rfl, a3, a4, a5, a6, a7, c2, c3⟩
  · rw [c2, o_bs, if_neg (neg_ne0 c1)]
    refine wp_some ⟨⟨rfl, rfl⟩, ?_⟩
    simp only
    unfold f_X11_element
    rw [c3 m rfl, o_bs, if_neg (neg_nle c1)]
    exact wp_some ⟨rfl, n, k, ρ, P, nb, hI, CB_step hC⟩
  · rw [c2, o_bs, if_pos rfl]
    simp only
    rw [x_valueAt hs (by omega), o_bs]
    refine wp_some ⟨⟨rfl, rfl⟩, ?_⟩
    simp only
    unfold f_X11_element
    rw [c3 m rfl, o_bs, if_pos (show (0 : Int32) ≤ 0 by decide)]
    simp only
    rw [sh_ix2, ol_ld ar_68 (by omega), o_bs]
    exact wp_some ⟨(a7 i (by omega)).1.symm, n, k, ρ, P, nb, hI, CB_step hC⟩
def nw (t : Nat) (v : Int64) : Int64 := if t = 0 then Int32.toInt64 ((Int32.toInt8 (Int64.toInt32 v)).toInt32) else if t = 1 then Int32.toInt64 ((Int32.toInt16 (Int64.toInt32 v)).toInt32) else if t = 2 then Int32.toInt64 (Int64.toInt32 v) else if t = 3 then v else if (lg_cmp v (0 : Int64)) = 0 then 0 else 1
theorem x_narrowed {t : Nat} (ht : t < 5) (v : Int64) (m : ej_M) : f_X6_narrowed (nI t) v m = some (nw t v, m) := by
  unfold f_X6_narrowed nw
  rcases (by omega : t = 0 ∨ t = 1 ∨ t = 2 ∨ t = 3 ∨ t = 4) with rfl | rfl | rfl | rfl | rfl
  · rw [if_pos (by decide), if_pos rfl]
  · rw [if_neg (by decide), if_pos (by decide), if_neg (by decide), if_pos rfl]
  · rw [if_neg (by decide), if_neg (by decide), if_pos (by decide), if_neg (by decide), if_neg (by decide), if_pos rfl]
  · rw [if_neg (by decide), if_neg (by decide), if_neg (by decide), if_pos (by decide), if_neg (by decide), if_neg (by decide), if_neg (by decide), if_pos rfl]
  · rw [if_neg (show ¬ nI 4 = 0 by decide), if_neg (show ¬ nI 4 = 1 by decide), if_neg (show ¬ nI 4 = 2 by decide), if_neg (show ¬ nI 4 = 3 by decide), if_neg (show ¬ (4 : Nat) = 0 by decide), if_neg (show ¬ (4 : Nat) = 1 by decide), if_neg (show ¬ (4 : Nat) = 2 by decide), if_neg (show ¬ (4 : Nat) = 3 by decide)]
    by_cases e : (lg_cmp v (0 : Int64)) = 0
    · rw [if_pos e, if_pos e]
    · rw [if_neg e, if_neg e]
theorem m_putN {s i t : Nat} (hs : s < 6) (hi : i < 60) (ht : t < 5) (v : Int64) {m : ej_M} (h66 : m.1 66 s = -2 - nI t) (hw : f_X11_whyNoPlace (nI s) (nI i) m = some (0, m)) : f_X11_put (nI s) (nI i) v m = some (1, ej_wl m 68 (60 * s + i) (nw t v)) := by
  have hgo : ∀ w : Int64, f_X11_put_B95 w (60 * nI s + nI i) m = some (1, ej_wl m 68 (60 * s + i) w) := fun w => by
    unfold f_X11_put_B95
    rw [sh_ix2, ol_st ar_68 (by omega), o_bs]
  unfold f_X11_put nw
  rw [hw, o_bs, if_pos (show (0 : Int32) ≤ 0 by decide)]
  simp only
  rw [oj_ar_ld ar_66 hs, o_bs, h66, (m_srt t ht).2.2]
  simp only [hgo]
  rcases (by omega : t = 0 ∨ t = 1 ∨ t = 2 ∨ t = 3 ∨ t = 4) with rfl | rfl | rfl | rfl | rfl
  · rw [if_pos (by decide), if_pos rfl]
  · rw [if_neg (by decide), if_pos (by decide), if_neg (by decide), if_pos rfl]
  · rw [if_neg (by decide), if_neg (by decide), if_pos (by decide), if_neg (by decide), if_neg (by decide), if_pos rfl]
  · rw [if_neg (by decide), if_neg (by decide), if_neg (by decide), if_pos (by decide), if_neg (by decide), if_neg (by decide), if_neg (by decide), if_pos rfl]
  · rw [if_neg (show ¬ nI 4 = 0 by decide), if_neg (show ¬ nI 4 = 1 by decide), if_neg (show ¬ nI 4 = 2 by decide), if_neg (show ¬ nI 4 = 3 by decide), if_neg (show ¬ (4 : Nat) = 0 by decide), if_neg (show ¬ (4 : Nat) = 1 by decide), if_neg (show ¬ (4 : Nat) = 2 by decide), if_neg (show ¬ (4 : Nat) = 3 by decide)]
    by_cases e : (lg_cmp v (0 : Int64)) = 0
    · rw [if_pos e, if_pos e]
    · rw [if_neg e, if_neg e]
theorem op_put (v1 v2 : Int32) (v3 : Int64) : OP (f_X10_put v1 v2 v3) (f_X11_put v1 v2 v3) := by
  intro L xs b m ⟨n, k, ρ, P, nb, hI, hC⟩ hb
  have hF := hI.2.2.2.2.2.1
  have hnb := hI.2.2.2.2.1.1
  unfold f_X10_put
  rcases sh_el hF hnb v1 v2 with ⟨c, c1, c2, c3⟩ | ⟨s, t, l, i, hs, ht, hl, hi, rfl, rfl, a3, a4, a5, a6, a7, c2, c3⟩
  · rw [c2, o_bs, if_neg (neg_ne0 c1)]
    refine wp_some ⟨⟨rfl, rfl⟩, ?_⟩
    simp only
    unfold f_X11_put
    rw [c3 m rfl, o_bs, if_neg (neg_nle c1)]
    exact wp_some ⟨rfl, n, k, ρ, P, nb, hI, CB_step hC⟩
  · rw [c2, o_bs, if_pos rfl]
    simp only
    unfold f_X6_enter
    rw [x_at38 hs, o_bs]
    simp only
    rw [a3, x_narrowed ht, o_bs]
    simp only
    rw [x_store hs (by omega), o_bs, o_bs]
    refine wp_some ⟨⟨rfl, rfl⟩, ?_⟩
    simp only
    rw [m_putN hs (by omega) ht v3 (by rw [wl_1]; exact a4) (c3 _ wl_1)]
    refine wp_some ⟨rfl, n, k, ρ, P, nb, IV_shelf hI (fun a j q => rfl) (IF_one (s := s) hF (fun q hq e => ⟨rfl, rfl, rfl, rfl, fun x hx => ⟨?_, ?_⟩⟩) (Or.inr (Or.inr ⟨t, l, ht, hl, a3, a4, a5, a6, fun x hx => ?_⟩))), CB_shelf (fun a j q => rfl) hC⟩
    · rw [wl_2, if_neg (by omega), wl_2, if_neg (by omega)]
    · rw [wl_2, if_neg (by omega), wl_2, if_neg (by omega)]
    · simp only [wl_2, true_and, Nat.reduceEqDiff, false_and, if_false]
      by_cases e : 60 * s + x = 60 * s + i
      · simp only [if_pos e]
        refine ⟨trivial, fun h0 => ?_⟩
        unfold nw
        rw [if_pos h0, Int32.toInt32_toInt64]
      · simp only [if_neg e]
        exact a7 x hx
/-! shift -/
/-- elements lo .. hi - 1 of a stretch of array a from p on, moved to array d from q on -/
def l_mv (m : ej_M) (a d p q lo hi : Nat) : ej_M := (m.1, fun c x => if c = d ∧ q + lo ≤ x ∧ x < q + hi then m.2 a (p + (x - q)) else m.2 c x)
theorem l_mv_1 {m : ej_M} {a d p q lo hi : Nat} : (l_mv m a d p q lo hi).1 = m.1 := rfl
theorem l_mv_2 {m : ej_M} {a d p q lo hi c x : Nat} : (l_mv m a d p q lo hi).2 c x = if c = d ∧ q + lo ≤ x ∧ x < q + hi then m.2 a (p + (x - q)) else m.2 c x := rfl
theorem l_mv_0 {m : ej_M} {a d p q lo : Nat} : l_mv m a d p q lo lo = m := by
  refine Prod.ext rfl (funext fun c => funext fun x => ?_)
  rw [l_mv_2, if_neg (by omega)]
theorem l_mv_up {m : ej_M} {a d p q lo hi : Nat} (h : lo ≤ hi) : ej_wl (l_mv m a d p q lo hi) d (q + hi) (m.2 a (p + hi)) = l_mv m a d p q lo (hi + 1) := by
  refine Prod.ext rfl (funext fun c => funext fun x => ?_)
  rw [wl_2, l_mv_2, l_mv_2]
  by_cases e : c = d ∧ x = q + hi
  · rw [if_pos e, if_pos ⟨e.1, by omega, by omega⟩]
    exact congrArg (m.2 a) (by omega)
  · rw [if_neg e]
    by_cases e2 : c = d ∧ q + lo ≤ x ∧ x < q + hi
    · rw [if_pos e2, if_pos ⟨e2.1, by omega, by omega⟩]
    · rw [if_neg e2, if_neg (by omega)]
theorem l_mv_dn {m : ej_M} {a d p q lo hi : Nat} (h : lo < hi) : ej_wl (l_mv m a d p q (lo + 1) hi) d (q + lo) (m.2 a (p + lo)) = l_mv m a d p q lo hi := by
  refine Prod.ext rfl (funext fun c => funext fun x => ?_)
  rw [wl_2, l_mv_2, l_mv_2]
  by_cases e : c = d ∧ x = q + lo
  · rw [if_pos e, if_pos ⟨e.1, by omega, by omega⟩]
    exact congrArg (m.2 a) (by omega)
  · rw [if_neg e]
    by_cases e2 : c = d ∧ q + (lo + 1) ≤ x ∧ x < q + hi
    · rw [if_pos e2, if_pos ⟨e2.1, by omega, by omega⟩]
    · rw [if_neg e2, if_neg (by omega)]
theorem x_move {s i o j n : Nat} (hs : s < 6) (ho : o < 6) (hi : i + n ≤ 60) (hj : j + n ≤ 60) (m : ej_M) (v : Int32) (hv : (v = 0 ∧ i ≤ j) ∨ (v = 1 ∧ j < i)) : f_X6_move_L59 (nI s) (nI i) (nI o) (nI j) (nI n) v 0 m = some (1, l_mv m 40 40 (60 * s + i) (60 * o + j) 0 n) := by
  unfold f_X6_move_L59
  have hB : ∀ (r x : Nat) (m' : ej_M), r < n → f_X6_move_B83 (nI s) (nI i) (nI o) (nI j) (nI n) v (nI x) (nI r) m' = some (Sum.inl (nI (x + 1), ej_wl m' 40 (60 * o + (j + r)) (m'.2 40 (60 * s + (i + r))))) := fun r x m' hr => by
    unfold f_X6_move_B83
    rw [nI_add, nI_add, x_valueAt hs (by omega), o_bs]
    simp only
    rw [x_store ho (by omega), o_bs, nI_1]
  rcases hv with ⟨rfl, hij⟩ | ⟨rfl, hij⟩
  · refine (l_up (fun x => l_mv m 40 40 (60 * s + i) (60 * o + j) (n - x) n) (n := n) (i0 := 0) (e := 1) (by omega) (by omega) ?_ (fun x h1 h2 => ?_) ?_).trans ?_
    · simp only [Nat.sub_zero]; exact l_mv_0
    · simp only
      unfold f_X6_move_L59b
      rw [if_neg (fun q => by have := (nI_leI (by omega) (by omega)).mp q; omega), if_pos rfl, nI_m1 (by omega), nI_sub (by omega), hB _ _ _ (by omega), l_mv_2, if_neg (by omega)]
      have h := l_mv_dn (m := m) (a := 40) (d := 40) (p := 60 * s + i) (q := 60 * o + j) (lo := n - 1 - x) (hi := n) (by omega)
      rw [show n - 1 - x + 1 = n - x by omega] at h
      rw [show 60 * o + (j + (n - 1 - x)) = 60 * o + j + (n - 1 - x) by omega, show 60 * s + (i + (n - 1 - x)) = 60 * s + i + (n - 1 - x) by omega, h, show n - (x + 1) = n - 1 - x by omega]
    · simp only
      unfold f_X6_move_L59b
      rw [if_pos (Int32.le_refl _)]
    · rw [Nat.sub_self]
  · refine l_up (fun x => l_mv m 40 40 (60 * s + i) (60 * o + j) 0 x) (n := n) (i0 := 0) (e := 1) (by omega) (by omega) l_mv_0 (fun x h1 h2 => ?_) ?_
    · simp only
      unfold f_X6_move_L59b
      rw [if_neg (fun q => by have := (nI_leI (by omega) (by omega)).mp q; omega), if_neg i10, hB _ _ _ (by omega), l_mv_2, if_neg (by omega)]
      have h := l_mv_up (m := m) (a := 40) (d := 40) (p := 60 * s + i) (q := 60 * o + j) (lo := 0) (hi := x) (by omega)
      rw [show 60 * o + (j + x) = 60 * o + j + x by omega, show 60 * s + (i + x) = 60 * s + i + x by omega, h]
    · simp only
      unfold f_X6_move_L59b
      rw [if_pos (Int32.le_refl _)]
theorem m_shiftL {s i o j n : Nat} (hs : s < 6) (ho : o < 6) (hi : i + n ≤ 60) (hj : j + n ≤ 60) (m : ej_M) : f_X11_shift_L113 (nI s) (nI i) (nI o) (nI j) (nI n) 0 m = some (nI n, l_mv (l_mv m 68 69 (60 * s + i) 0 0 n) 69 68 0 (60 * o + j) 0 n) := by
  unfold f_X11_shift_L113
  refine wp_get (wp_up (fun x => l_mv m 68 69 (60 * s + i) 0 0 x) (n := n) (i0 := 0) (by omega) (by omega) l_mv_0 (fun x h1 h2 => ?_) ?_)
  · simp only
    unfold f_X11_shift_L113b
    rw [if_neg (fun q => by have := (nI_leI (by omega) (by omega)).mp q; omega), sh_ix2, nI_add, ol_ld ar_68 (by omega), o_bs, ol_st ar_69 (by omega), o_bs, nI_1, l_mv_2, if_neg (by omega)]
    have h := l_mv_up (m := m) (a := 68) (d := 69) (p := 60 * s + i) (q := 0) (lo := 0) (hi := x) (by omega)
    rw [Nat.zero_add] at h
    rw [h]
  · simp only
    unfold f_X11_shift_L113b
    rw [if_pos (Int32.le_refl _)]
    have h2 : f_X11_shift_L150 (nI o) (nI j) (nI n) 0 (l_mv m 68 69 (60 * s + i) 0 0 n) = some (nI n, l_mv (l_mv m 68 69 (60 * s + i) 0 0 n) 69 68 0 (60 * o + j) 0 n) := by
      generalize l_mv m 68 69 (60 * s + i) 0 0 n = m1
      unfold f_X11_shift_L150
      refine l_up (fun x => l_mv m1 69 68 0 (60 * o + j) 0 x) (n := n) (i0 := 0) (by omega) (by omega) l_mv_0 (fun x h1 h2 => ?_) ?_
      · simp only
        unfold f_X11_shift_L150b
        rw [if_neg (fun q => by have := (nI_leI (by omega) (by omega)).mp q; omega), ol_ld ar_69 (by omega), o_bs, sh_ix2, nI_add, ol_st ar_68 (by omega), o_bs, nI_1, l_mv_2, if_neg (by omega)]
        have h := l_mv_up (m := m1) (a := 69) (d := 68) (p := 0) (q := 60 * o + j) (lo := 0) (hi := x) (by omega)
        rw [Nat.zero_add] at h
        rw [h]
      · simp only
        unfold f_X11_shift_L150b
        rw [if_pos (Int32.le_refl _)]
    rw [h2]
    exact wp_inr rfl
theorem sub_lt {l n i : Nat} (hl : l ≤ 60) (hn : n < 2 ^ 31) (hi : i < 2 ^ 31) : nI l - nI n < nI i ↔ l < i + n := by
  rw [Int32.lt_iff_toInt_lt, Int32.toInt_sub, nI_toInt (n := l) (by omega), nI_toInt hn, nI_toInt hi, Int.bmod_eq_of_le (by omega) (by omega)]
  omega
theorem sub_le {l n j : Nat} (hl : l ≤ 60) (hn : n < 2 ^ 31) (hj : j < 2 ^ 31) : nI j ≤ nI l - nI n ↔ j + n ≤ l := by
  rw [Int32.le_iff_toInt_le, Int32.toInt_sub, nI_toInt (n := l) (by omega), nI_toInt hn, nI_toInt hj, Int.bmod_eq_of_le (by omega) (by omega)]
  omega
/-- both sides look whether two shelves hold rows of like sorts -/
theorem sh_pair {nb : Nat} {m : ej_M} (hF : IF nb m) (hnb : nb ≤ 50) (v1 v3 : Int32) :
    (∃ c : Int32, c < 0 ∧ f_X6_refusesPair v1 v3 m = some (c, m) ∧ ∀ v2 v4 v5, f_X11_shift v1 v2 v3 v4 v5 m = some (c, m)) ∨
    ∃ s o t l l', s < 6 ∧ o < 6 ∧ t < 5 ∧ l ≤ 60 ∧ l' ≤ 60 ∧ v1 = nI s ∧ v3 = nI o ∧ m.1 38 s = nI t ∧ m.1 39 s = nI l ∧ m.1 67 s = nI l ∧ m.1 38 o = nI t ∧ m.1 66 o = -2 - nI t ∧ m.1 39 o = nI l' ∧ m.1 67 o = nI l'
      ∧ (∀ i, i < 60 → m.2 68 (60 * s + i) = m.2 40 (60 * s + i) ∧ (t = 0 → Int32.toInt64 (Int64.toInt32 (m.2 40 (60 * s + i))) = m.2 40 (60 * s + i)))
      ∧ (∀ i, i < 60 → m.2 68 (60 * o + i) = m.2 40 (60 * o + i) ∧ (t = 0 → Int32.toInt64 (Int64.toInt32 (m.2 40 (60 * o + i))) = m.2 40 (60 * o + i)))
      ∧ f_X6_refusesPair v1 v3 m = some (0, m) ∧ ∀ v2 v4 v5, ∀ m' : ej_M, m'.1 = m.1 → f_X11_shift v1 v2 v3 v4 v5 m' = if v5 < 0 then some (-13, m') else if v2 < 0 then some (-13, m') else if v4 < 0 then some (-13, m') else if nI l - v5 < v2 then some (-13, m') else if v4 ≤ nI l' - v5 then f_X11_shift_L113 v1 v2 v3 v4 v5 0 m' else some (-13, m') := by
  rcases r_cases v1 6 with ⟨s, hs, rfl⟩ | hN
  · rcases r_cases v3 6 with ⟨o, ho, rfl⟩ | hN3
    · have hX : f_X6_refusesPair (nI s) (nI o) m = if m.1 38 s = -2 then some (-11, m) else if m.1 38 o = -2 then some (-11, m) else if m.1 38 s < 0 then some (-12, m) else if m.1 38 s = m.1 38 o then some (0, m) else some (-12, m) := by
        unfold f_X6_refusesPair
        rw [x_shelfY hs, o_bs, if_neg i10]
        simp only
        rw [x_shelfY ho, o_bs, if_neg i10]
        simp only
        rw [x_isEmpty hs, o_bs]
        by_cases e1 : m.1 38 s = -2
        · simp only [if_pos e1]
          rw [if_neg i10]
        · simp only [if_neg e1, if_true]
          rw [x_isEmpty ho, o_bs]
          by_cases e2 : m.1 38 o = -2
          · simp only [if_pos e2]
            rw [if_neg i10]
          · simp only [if_neg e2, if_true]
            rw [x_at38 hs, o_bs]
            simp only
            rw [x_at38 hs, o_bs]
            simp only
            rw [x_at38 ho, o_bs]
      have hM : ∀ v2 v4 v5, ∀ m' : ej_M, m'.1 = m.1 → f_X11_shift (nI s) v2 (nI o) v4 v5 m' = if m.1 66 s = -1 then some (-11, m') else if m.1 66 o = -1 then some (-11, m') else if 0 ≤ m.1 66 s then some (-12, m') else if m.1 66 s = m.1 66 o then (if v5 < 0 then some (-13, m') else if v2 < 0 then some (-13, m') else if v4 < 0 then some (-13, m') else if m.1 67 s - v5 < v2 then some (-13, m') else if v4 ≤ m.1 67 o - v5 then f_X11_shift_L113 (nI s) v2 (nI o) v4 v5 0 m' else some (-13, m')) else some (-12, m') := fun v2 v4 v5 m' e => by
        unfold f_X11_shift
        rw [m_shelfY hs, o_bs, if_neg i10]
        simp only
        rw [m_shelfY ho, o_bs, if_neg i10]
        simp only
        rw [oj_ar_ld ar_66 hs, o_bs, oj_ar_ld ar_66 ho, o_bs, o_bs, o_bs, o_bs, oj_ar_ld ar_67 hs, o_bs, oj_ar_ld ar_67 ho, o_bs, e]
      rcases hF s hs with ⟨a1, a2⟩ | ⟨b, a1, a2, a3, a4⟩ | ⟨t, l, a1, a2, a3, a4, a5, a6, a7⟩
      · refine Or.inl ⟨-11, by decide, ?_, fun v2 v4 v5 => ?_⟩
        · rw [hX, if_pos a1]
        · rw [hM v2 v4 v5 m rfl, if_pos a2]
      · rcases hF o ho with ⟨c1, c2⟩ | ⟨d, c1, c2, c3, c4⟩ | ⟨t', l', c1, c2, c3, c4, c5, c6, c7⟩
        · refine Or.inl ⟨-11, by decide, ?_, fun v2 v4 v5 => ?_⟩
          · rw [hX, a2, if_neg (by decide), if_pos c1]
          · rw [hM v2 v4 v5 m rfl, a4, if_neg (nI_neq1 (by omega)), if_pos c2]
        · refine Or.inl ⟨-12, by decide, ?_, fun v2 v4 v5 => ?_⟩
          · rw [hX, a2, c2, if_neg (by decide), if_neg (by decide), if_pos (by decide)]
          · rw [hM v2 v4 v5 m rfl, a4, c4, if_neg (nI_neq1 (by omega)), if_neg (nI_neq1 (by omega)), if_pos (nI_0le (by omega))]
        · refine Or.inl ⟨-12, by decide, ?_, fun v2 v4 v5 => ?_⟩
          · rw [hX, a2, c3, if_neg (by decide), if_neg (nI_neq2 (by omega)), if_pos (by decide)]
          · rw [hM v2 v4 v5 m rfl, a4, c4, if_neg (nI_neq1 (by omega)), if_neg (m_srt t' c1).2.1, if_pos (nI_0le (by omega))]
      · obtain ⟨b1, b2, b3⟩ := m_srt t a1
        rcases hF o ho with ⟨c1, c2⟩ | ⟨d, c1, c2, c3, c4⟩ | ⟨t', l', c1, c2, c3, c4, c5, c6, c7⟩
        · refine Or.inl ⟨-11, by decide, ?_, fun v2 v4 v5 => ?_⟩
          · rw [hX, a3, if_neg (nI_neq2 (by omega)), if_pos c1]
          · rw [hM v2 v4 v5 m rfl, a4, if_neg b2, if_pos c2]
        · refine Or.inl ⟨-12, by decide, ?_, fun v2 v4 v5 => ?_⟩
          · rw [hX, a3, c2, if_neg (nI_neq2 (by omega)), if_neg (by decide), if_neg (nI_pos (by omega)), if_neg (nI_neq1 (by omega))]
          · rw [hM v2 v4 v5 m rfl, a4, c4, if_neg b2, if_neg (nI_neq1 (by omega)), if_neg (Int32.not_le.mpr b1), if_neg (fun e => by rw [e] at b1; exact nI_pos (n := d) (by omega) b1)]
        · by_cases htt : t = t'
          · subst htt
            refine Or.inr ⟨s, o, t, l, l', hs, ho, a1, a2, c2, rfl, rfl, a3, a5, a6, c3, c4, c5, c6, a7, c7, ?_, fun v2 v4 v5 m' e => ?_⟩
            · rw [hX, a3, c3, if_neg (nI_neq2 (by omega)), if_neg (nI_neq2 (by omega)), if_neg (nI_pos (by omega)), if_pos rfl]
            · rw [hM v2 v4 v5 m' e, a4, c4, if_neg b2, if_neg b2, if_neg (Int32.not_le.mpr b1), if_pos rfl, a6, c6]
          · refine Or.inl ⟨-12, by decide, ?_, fun v2 v4 v5 => ?_⟩
            · rw [hX, a3, c3, if_neg (nI_neq2 (by omega)), if_neg (nI_neq2 (by omega)), if_neg (nI_pos (by omega)), if_neg (fun e => htt (nI_inj (by omega) (by omega) e))]
            · rw [hM v2 v4 v5 m rfl, a4, c4, if_neg b2, if_neg (m_srt t' c1).2.1, if_neg (Int32.not_le.mpr b1), if_neg (fun e => htt ((m_srt_inj t a1 t' c1).mp e))]
    · refine Or.inl ⟨-1, by decide, ?_, fun v2 v4 v5 => ?_⟩
      · unfold f_X6_refusesPair
        rw [x_shelfY hs, o_bs, if_neg i10, x_shelfN hN3, o_bs, if_pos rfl]
      · unfold f_X11_shift
        rw [m_shelfY hs, o_bs, if_neg i10, m_shelfN hN3, o_bs, if_pos rfl]
  · refine Or.inl ⟨-1, by decide, ?_, fun v2 v4 v5 => ?_⟩
    · unfold f_X6_refusesPair
      rw [x_shelfN hN, o_bs, if_pos rfl]
    · unfold f_X11_shift
      rw [m_shelfN hN, o_bs, if_pos rfl]
theorem op_shift (v1 v2 v3 v4 v5 : Int32) : OP (f_X10_shift v1 v2 v3 v4 v5) (f_X11_shift v1 v2 v3 v4 v5) := by
  intro L xs b m ⟨n, k, ρ, P, nb, hI, hC⟩ hb
  have hF := hI.2.2.2.2.2.1
  have hnb := hI.2.2.2.2.1.1
  unfold f_X10_shift
  rcases sh_pair hF hnb v1 v3 with ⟨c, c1, c2, c3⟩ | ⟨s, o, t, l, l', hs, ho, ht, hl, hl', rfl, rfl, a1, a2, a3, d1, d2, d3, d4, a7, d7, c2, c3⟩
  · rw [c2, o_bs, if_neg (neg_ne0 c1)]
    refine wp_some ⟨⟨rfl, rfl⟩, ?_⟩
    simp only
    rw [c3]
    exact wp_some ⟨rfl, n, k, ρ, P, nb, hI, CB_step hC⟩
  · rw [c2, o_bs, if_pos rfl]
    simp only
    -- what isn't moved
    have hno : f_X6_move (nI s) v2 (nI o) v4 v5 m = some (0, m) → f_X11_shift (nI s) v2 (nI o) v4 v5 m = some (-13, m) → oj_wp ((f_X6_move (nI s) v2 (nI o) v4 v5 m).bind fun q2 => if q2.1 = 0 then some (-13, q2.2) else some (v5, q2.2)) fun q => (q.2.1 4000 = m.1 4000 ∧ q.2.1 4001 = m.1 4001) ∧ oj_wp (f_X11_shift (nI s) v2 (nI o) v4 v5 q.2) fun r => q.1 = r.1 ∧ Inv L xs (b + oST) r.2 := fun e1 e2 => by
      rw [e1, o_bs, if_pos rfl]
      refine wp_some ⟨⟨rfl, rfl⟩, ?_⟩
      simp only
      rw [e2]
      exact wp_some ⟨rfl, n, k, ρ, P, nb, hI, CB_step hC⟩
    have hMv : f_X6_move (nI s) v2 (nI o) v4 v5 m = if v5 < 0 then some (0, m) else if v2 < 0 then some (0, m) else if 0 ≤ v4 then (if nI l - v5 < v2 then some (0, m) else if v4 ≤ nI l' - v5 then (if v2 ≤ v4 then f_X6_move_L59 (nI s) v2 (nI o) v4 v5 0 0 m else f_X6_move_L59 (nI s) v2 (nI o) v4 v5 1 0 m) else some (0, m)) else some (0, m) := by
      unfold f_X6_move
      rw [x_length hs, o_bs, a1, if_neg (nI_pos (by omega)), a2]
      simp only
      rw [x_length ho, o_bs, d1, if_neg (nI_pos (by omega)), d3]
    have hMs := c3 v2 v4 v5 m rfl
    by_cases k5 : v5 < 0
    · exact hno (by rw [hMv, if_pos k5]) (by rw [hMs, if_pos k5])
    rw [if_neg k5] at hMv hMs
    by_cases k2 : v2 < 0
    · exact hno (by rw [hMv, if_pos k2]) (by rw [hMs, if_pos k2])
    rw [if_neg k2] at hMv hMs
    by_cases k4 : v4 < 0
    · exact hno (by rw [hMv, if_neg (neg_nle k4)]) (by rw [hMs, if_pos k4])
    rw [if_pos (Int32.not_lt.mp k4)] at hMv
    rw [if_neg k4] at hMs
    by_cases k6 : nI l - v5 < v2
    · exact hno (by rw [hMv, if_pos k6]) (by rw [hMs, if_pos k6])
    rw [if_neg k6] at hMv hMs
    by_cases k7 : v4 ≤ nI l' - v5
    · rw [if_pos k7] at hMv hMs
      obtain ⟨c, hc, rfl⟩ := nI_of k5
      obtain ⟨i, hi, rfl⟩ := nI_of k2
      obtain ⟨j, hj, rfl⟩ := nI_of k4
      have g1 : i + c ≤ l := by
        by_cases q : i + c ≤ l
        · exact q
        · exact absurd ((sub_lt hl hc hi).mpr (by omega)) k6
      have g2 : j + c ≤ l' := (sub_le hl' hc hj).mp k7
      have hx : f_X6_move (nI s) (nI i) (nI o) (nI j) (nI c) m = some (1, l_mv m 40 40 (60 * s + i) (60 * o + j) 0 c) := by
        rw [hMv]
        by_cases q : i ≤ j
        · rw [if_pos ((nI_leI hi hj).mpr q)]
          exact x_move hs ho (by omega) (by omega) m 0 (Or.inl ⟨rfl, q⟩)
        · rw [if_neg (fun z => q ((nI_leI hi hj).mp z))]
          exact x_move hs ho (by omega) (by omega) m 1 (Or.inr ⟨rfl, by omega⟩)
      rw [hx, o_bs, if_neg i10]
      refine wp_some ⟨⟨rfl, rfl⟩, ?_⟩
      simp only
      rw [c3 _ _ _ _ l_mv_1, if_neg k5, if_neg k2, if_neg k4, if_neg k6, if_pos k7, m_shiftL hs ho (by omega) (by omega)]
      refine wp_some ⟨rfl, n, k, ρ, P, nb, IV_shelf hI (fun a x q => rfl) (IF_one (s := o) hF (fun q hq e => ⟨rfl, rfl, rfl, rfl, fun x hx => ⟨?_, ?_⟩⟩) (Or.inr (Or.inr ⟨t, l', ht, hl', d1, d2, d3, d4, fun x hx => ?_⟩))), CB_shelf (fun a x q => rfl) hC⟩
      · rw [l_mv_2, if_neg (by omega), l_mv_2, if_neg (by omega), l_mv_2, if_neg (by omega)]
      · rw [l_mv_2, if_neg (by omega), l_mv_2, if_neg (by omega), l_mv_2, if_neg (by omega)]
      · have e40 : (l_mv (l_mv (l_mv m 40 40 (60 * s + i) (60 * o + j) 0 c) 68 69 (60 * s + i) 0 0 c) 69 68 0 (60 * o + j) 0 c).2 40 (60 * o + x) = if j ≤ x ∧ x < j + c then m.2 40 (60 * s + (i + (x - j))) else m.2 40 (60 * o + x) := by
          rw [l_mv_2, if_neg (by omega), l_mv_2, if_neg (by omega), l_mv_2]
          by_cases q : j ≤ x ∧ x < j + c
          · rw [if_pos ⟨rfl, by omega, by omega⟩, if_pos q]
            exact congrArg (m.2 40) (by omega)
          · rw [if_neg (by omega), if_neg q]
        have e68 : (l_mv (l_mv (l_mv m 40 40 (60 * s + i) (60 * o + j) 0 c) 68 69 (60 * s + i) 0 0 c) 69 68 0 (60 * o + j) 0 c).2 68 (60 * o + x) = if j ≤ x ∧ x < j + c then m.2 68 (60 * s + (i + (x - j))) else m.2 68 (60 * o + x) := by
          rw [l_mv_2]
          by_cases q : j ≤ x ∧ x < j + c
          · rw [if_pos ⟨rfl, by omega, by omega⟩, if_pos q, l_mv_2, if_pos ⟨rfl, by omega, by omega⟩, l_mv_2, if_neg (by omega)]
            exact congrArg (m.2 68) (by omega)
          · rw [if_neg (by omega), if_neg q, l_mv_2, if_neg (by omega), l_mv_2, if_neg (by omega)]
        rw [e40, e68]
        by_cases q : j ≤ x ∧ x < j + c
        · rw [if_pos q, if_pos q]; exact a7 _ (by omega)
        · rw [if_neg q, if_neg q]; exact d7 x hx
    · exact hno (by rw [hMv, if_neg k7]) (by rw [hMs, if_neg k7])
/-! taken -/
def un_ab (t : Nat) : Int32 := ([-1, 0, 0, 2, 1, 3, 0, 6] : List Int32).getD t 0
/-- by fuel: whether a kind is under another -/
def un_x : Nat → Int32 → Nat → Bool
  | 0, _, _ => false
  | f + 1, v, k => if v = -1 then false else if v = nI k then true else un_x f (un_ab v.toNatClampNeg) k
def un_m (v0 v1 : Int32) : Bool := v1 = 0 || v0 = v1 || (v1 = 1 && v0 = 4) || (v1 = 2 && (v0 = 3 || v0 = 5)) || (v1 = 3 && v0 = 5) || (v1 = 6 && v0 = 7)
theorem un_eq : ∀ t, t < 8 → ∀ k, k < 8 → un_x 8 (nI t) k = un_m (nI t) (nI k) := by decide
theorem m_isUnder (v0 v1 : Int32) (m : ej_M) : f_X11_isUnder v0 v1 m = some (if un_m v0 v1 then 1 else 0, m) := by
  unfold f_X11_isUnder un_m
  by_cases h0 : v1 = 0
  · simp [h0]
  by_cases h1 : v0 = v1
  · simp [h1]
  unfold f_X11_isUnder_B19 f_X11_isUnder_B34 f_X11_isUnder_B44
  by_cases k1 : v1 = 1
  · subst k1
    by_cases k4 : v0 = 4
    · simp [k4]
    · simp [h1, k4]
  by_cases k2 : v1 = 2
  · subst k2
    by_cases k3 : v0 = 3
    · simp [k3]
    · by_cases k5 : v0 = 5
      · simp [k5]
      · simp [h1, k3, k5]
  by_cases k3 : v1 = 3
  · subst k3
    by_cases k5 : v0 = 5
    · simp [k5]
    · simp [h1, k5]
  by_cases k6 : v1 = 6
  · subst k6
    by_cases k7 : v0 = 7
    · simp [k7]
    · simp [h1, k7]
  simp [h0, h1, k1, k2, k3, k6]
theorem im_1000 {L : Nat} {xs : Nat → Int32} : im_I L xs 1000 = fun j => ([-1, 0, 0, 2, 1, 3, 0, 6] : List Int32).getD j 0 := by
  funext j
  unfold im_I
  rw [if_pos rfl]
theorem ld_1000 {m : ej_M} {t : Nat} (ht : t < 8) : f_X10_at 1000 (nI t) m = some (m.1 1000 t, m) := by
  unfold f_X10_at
  rw [if_neg (nI_pos (by omega))]
  have e : ej_al (ej_sh, m) 1000 = some (0, 8) := rfl
  have e1 : oj_ln m 1000 = some (nI 8) := by unfold oj_ln; rw [e]; rfl
  rw [e1, o_bs, if_neg (fun q => by have := (nI_leI (by decide) (by omega)).mp q; omega)]
  have e2 : oj_ld 0 m 1000 (nI t) = some (m.1 1000 t) := by
    unfold oj_ld
    rw [e]
    simp only
    rw [nI_clamp (by omega), if_pos ⟨trivial, fun q => q.elim (fun z => nI_pos (by omega) z) (fun z => by omega)⟩]
  rw [e2, o_bs]
theorem un_abN : ∀ t, t < 8 → un_ab t = -1 ∨ ∃ u, u < 8 ∧ un_ab t = nI u := by decide
theorem x_isUnder {m : ej_M} {L : Nat} {xs : Nat → Int32} (hG : IG L xs m) {k : Nat} (hk : k < 8) : ∀ f i K v, f + i = 8 → (v = -1 ∨ ∃ t, t < 8 ∧ v = nI t) → oj_loop (fun q : (Int32 × Int32 × ej_M) => f_X0_isUnder_L5b (nI k) q.1 q.2.1 q.2.2) (f + K + 1) (v, nI i, m) = some (if un_x f v k then 1 else 0, m) := by
  intro f
  induction f with
  | zero =>
    intro i K v hi hv
    have : i = 8 := by omega
    subst this
    refine wp_get (wp_loop1 ?_)
    simp only
    unfold f_X0_isUnder_L5b
    rw [if_pos (show (8 : Int32) ≤ nI 8 from Int32.le_refl _)]
    exact wp_inr rfl
  | succ f ih =>
    intro i K v hi hv
    refine wp_get (wp_loop1 ?_)
    simp only
    unfold f_X0_isUnder_L5b
    rw [if_neg (show ¬ (8 : Int32) ≤ nI i from fun q => by have := (nI_leI (a := 8) (by decide) (by omega)).mp q; omega)]
    unfold un_x
    by_cases e1 : v = -1
    · rw [if_pos e1, if_pos e1]
      exact wp_inr rfl
    · rw [if_neg e1, if_neg e1]
      by_cases e2 : v = nI k
      · rw [if_pos e2, if_pos e2]
        exact wp_inr rfl
      · rw [if_neg e2, if_neg e2]
        obtain ⟨t, ht, rfl⟩ := hv.resolve_left e1
        rw [ld_1000 ht, o_bs, nI_1, nI_clamp (by omega), hG 1000 (by decide), im_1000]
        refine wp_inl ?_
        have := ih (i + 1) K (un_ab t) (by omega) (un_abN t ht)
        rw [show f + 1 + K = f + K + 1 by omega]
        exact wp_eq this rfl
theorem x_under {m : ej_M} {L : Nat} {xs : Nat → Int32} (hG : IG L xs m) {k : Nat} (hk : k < 8) {v : Int32} (hv : v = -1 ∨ ∃ t, t < 8 ∧ v = nI t) : f_X0_isUnder v (nI k) m = some (if un_x 8 v k then 1 else 0, m) := by
  unfold f_X0_isUnder f_X0_isUnder_L5
  exact x_isUnder hG hk 8 0 (oj_FU - 9) v (by omega) hv
theorem op_taken (v1 v2 : Int32) : OP (f_X10_taken v1 v2) (f_X11_taken v1 v2) := by
  rcases r_cases v1 6 with ⟨s, hs, rfl⟩ | hN
  · rcases r_cases v2 8 with ⟨k', hk, rfl⟩ | hN2
    · refine OP_same fun L xs n k ρ P nb m hI => ?_
      obtain ⟨hA, hB, hCh, hD, ⟨e1, e2, e3, e4, _⟩, hF, hG⟩ := hI
      have hX : f_X10_taken (nI s) (nI k') m = if m.1 38 s = -2 then some (-11, m) else if m.1 38 s = -1 then (f_X0_kindOf (m.1 39 s) m).bind fun q5 => f_X10_taken_B67 (nI k') q5.1 q5.2 else f_X10_taken_B67 (nI k') (-1) m := by
        unfold f_X10_taken
        rw [x_shelfY hs, o_bs, if_neg i10, if_neg (nI_pos (by omega)), if_pos (show nI k' < 8 from i_lt (N := 8) hk (by decide))]
        simp only
        rw [x_isEmpty hs, o_bs]
        by_cases q1 : m.1 38 s = -2
        · simp only [if_pos q1]
          rw [if_neg i10]
        · simp only [if_neg q1, if_true]
          rw [x_holdsBody hs, o_bs]
          by_cases q2 : m.1 38 s = -1
          · simp only [if_pos q2]
            rw [if_neg i10]
            unfold f_X6_bodyOn
            rw [x_at39 hs, o_bs, o_bs]
          · simp only [if_neg q2, if_true]
      have hM : f_X11_taken (nI s) (nI k') m = if m.1 66 s = -1 then some (-11, m) else if m.1 66 s < 0 then some (-12, m) else (oj_ld 0 m 64 (m.1 66 s)).bind fun w6 => if (if un_m w6 (nI k') then (1 : Int32) else 0) = 0 then some (-12, m) else some (w6, m) := by
        unfold f_X11_taken
        rw [m_shelfY hs, o_bs, if_neg i10]
        simp only
        rw [m_inKY (N := 8) hk (by decide) (by decide), o_bs, if_neg i10]
        simp only
        rw [oj_ar_ld ar_66 hs, o_bs, o_bs, o_bs]
        rcases hw : oj_ld 0 m 64 (m.1 66 s) with _ | w6
        · rfl
        · simp only [o_bs, m_isUnder, oj_ar_ld ar_66 hs, hw]
      rcases hF s hs with ⟨a1, a2⟩ | ⟨b, a1, a2, a3, a4⟩ | ⟨t, l, a1, a2, a3, a4, a5, a6, a7⟩
      · exact ⟨-11, by rw [hX, if_pos a1], by rw [hM, if_pos a2]⟩
      · obtain ⟨f1, t, f2, f3⟩ := e4 b a1
        have hk0 : f_X0_kindOf (nI b) m = some (nI t, m) := by
          unfold f_X0_kindOf
          rw [x_bodyY e2 (by omega) a1, o_bs, if_neg i10]
          simp only
          rw [p_at1 ar_35 (by omega), o_bs, f3]
        refine ⟨if un_m (nI t) (nI k') then nI t else -12, ?_, ?_⟩
        · rw [hX, if_neg (by rw [a2]; decide), if_pos a2, a3, hk0, o_bs]
          unfold f_X10_taken_B67
          rw [x_under hG hk (Or.inr ⟨t, f2, rfl⟩), o_bs, un_eq t f2 k' hk]
          by_cases q : un_m (nI t) (nI k') = true
          · simp only [if_pos q]; rw [if_neg i10]
          · simp only [if_neg q, if_true]
        · rw [hM, a4, if_neg (nI_neq1 (by omega)), if_neg (nI_pos (by omega)), oj_ar_ld ar_64 (by omega), o_bs, f1, f3]
          by_cases q : un_m (nI t) (nI k') = true
          · simp only [if_pos q]; rw [if_neg i10]
          · simp only [if_neg q, if_true]
      · obtain ⟨b1, b2, b3⟩ := m_srt t a1
        refine ⟨-12, ?_, ?_⟩
        · rw [hX, a3, if_neg (nI_neq2 (by omega)), if_neg (nI_neq1 (by omega))]
          unfold f_X10_taken_B67
          rw [x_under hG hk (Or.inl rfl), o_bs]
          rfl
        · rw [hM, a4, if_neg b2, if_pos b1]
    · refine OP_no (v := -1) (fun m => ?_) (fun m => ?_)
      · unfold f_X10_taken
        rw [x_shelfY hs, o_bs, if_neg i10]
        rcases r_no (by decide) hN2 with h | h
        · rw [if_pos h]
        · by_cases h0 : v2 < 0
          · rw [if_pos h0]
          · rw [if_neg h0, if_neg (show ¬ v2 < 8 from Int32.not_lt.mpr h)]
      · unfold f_X11_taken
        rw [m_shelfY hs, o_bs, if_neg i10, m_inK (N := 8) (by decide) (by decide) hN2, o_bs, if_pos rfl]
  · refine OP_no (v := -1) (fun m => ?_) (fun m => ?_)
    · unfold f_X10_taken
      rw [x_shelfN hN, o_bs, if_pos rfl]
    · unfold f_X11_taken
      rw [m_shelfN hN, o_bs, if_pos rfl]
