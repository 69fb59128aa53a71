/-! stone -/
def i_wt (v : Int32) : Prop := ∃ w, 1 ≤ w ∧ w ≤ 99 ∧ v = nI w
theorem i_wt_iff (v : Int32) : i_wt v ↔ ¬ v < 1 ∧ ¬ 99 < v := by
  constructor
  · rintro ⟨w, h1, h2, rfl⟩
    exact ⟨fun q => by have := (nI_ltI (b := 1) (by omega) (by decide)).mp q; omega, fun q => by have := (nI_ltI (a := 99) (by decide) (by omega)).mp q; omega⟩
  · rintro ⟨h1, h2⟩
    have h0 : ¬ v < 0 := fun q => h1 (Int32.lt_trans q (by decide))
    obtain ⟨j, hj, rfl⟩ := nI_of h0
    refine ⟨j, ?_, ?_, rfl⟩
    · by_cases q : 1 ≤ j
      · exact q
      · exact absurd ((nI_ltI (b := 1) hj (by decide)).mpr (by omega)) h1
    · by_cases q : j ≤ 99
      · exact q
      · exact absurd ((nI_ltI (a := 99) (by decide) hj).mpr (by omega)) h2
theorem x_isWeightY {v : Int32} (h : i_wt v) (m : ej_M) : f_X10_isWeight v m = some (1, m) := by
  obtain ⟨a, b⟩ := (i_wt_iff v).mp h
  unfold f_X10_isWeight
  rw [if_neg a, if_neg b]
theorem x_isWeightN {v : Int32} (h : ¬ i_wt v) (m : ej_M) : f_X10_isWeight v m = some (0, m) := by
  unfold f_X10_isWeight
  by_cases a : v < 1
  · rw [if_pos a]
  · rw [if_neg a, if_pos]
    by_cases b : 99 < v
    · exact b
    · exact absurd ((i_wt_iff v).mpr ⟨a, b⟩) h
theorem m_isWeightY {v : Int32} (h : i_wt v) (m : ej_M) : f_X11_in v 1 99 m = some (1, m) := by
  obtain ⟨a, b⟩ := (i_wt_iff v).mp h
  exact p_in1 (Int32.not_lt.mp a) (Int32.not_lt.mp b) m
theorem m_isWeightN {v : Int32} (h : ¬ i_wt v) (m : ej_M) : f_X11_in v 1 99 m = some (0, m) :=
  p_in0 (fun q => h ((i_wt_iff v).mpr ⟨Int32.not_lt.mpr q.1, Int32.not_lt.mpr q.2⟩)) m
/-- how the class weighs a stone -/
def x_wm (m : ej_M) (i : Nat) (v : Int32) : ej_M := ej_w (oj_row m 7 (upd (m.1 7) i v)) 6 14 (m.1 6 14 + 1)
theorem x_weigh {m : ej_M} {i : Nat} (hi : i < 8) (v : Int32) : f_X4_weigh (nI i) v m = some ((), x_wm m i v) := by
  unfold f_X4_weigh
  rw [p_lay1 ar_7 (by omega), o_bs, if_neg (fun e => by have := nI_inj (b := 8) (by omega) (by decide) e; omega)]
  unfold f_X4_judgeAnew oj_pf
  rw [o_bs, o_bs]
  rfl
theorem x_bring {m : ej_M} {n : Nat} (hm : m.1 6 2 = nI n) (hn : n < 8) {v : Int32} (hv : i_wt v) : f_X4_bring v m = some (nI n, ej_w (x_wm m n v) 6 2 (nI (n + 1))) := by
  unfold f_X4_bring
  rw [x_isWeightY hv, o_bs, if_neg i10, hm, if_pos (show nI n < 8 from i_lt (N := 8) hn (by decide)), x_weigh hn, o_bs]
  unfold oj_pf
  rw [o_bs]
  unfold x_wm
  simp only [oj_row_rd, ej_w_rd, upd_rd, reduceIte, Nat.reduceEqDiff]
  rw [hm, nI_1, nI_pred]
theorem x_bringF {m : ej_M} {n : Nat} (hm : m.1 6 2 = nI n) (hn : n = 8) {v : Int32} (hv : i_wt v) : f_X4_bring v m = some (-3, m) := by
  unfold f_X4_bring
  rw [x_isWeightY hv, o_bs, if_neg i10, hm, hn, if_neg (by decide)]
theorem x_bringN {m : ej_M} {v : Int32} (hv : ¬ i_wt v) : f_X4_bring v m = some (-1, m) := by
  unfold f_X4_bring
  rw [x_isWeightN hv, o_bs, if_pos rfl]
theorem m_add {m : ej_M} {n : Nat} (hm : m.1 41 1 = nI n) (hn : n < 8) {v : Int32} : f_X11_addStone v m = some (nI n, ej_w (oj_row m 42 (upd (m.1 42) n v)) 41 1 (nI (n + 1))) := by
  unfold f_X11_addStone
  rw [hm, oj_ar_st ar_42 (by omega), o_bs]
  unfold oj_pf
  rw [o_bs]
  simp only [oj_row_rd, ej_w_rd, upd_rd, reduceIte, Nat.reduceEqDiff]
  rw [hm, nI_1, nI_pred]
theorem CB_weigh {P : Option (List (List Int32 × List Int32))} {b i : Nat} {m : ej_M} {v : Int32} (h : CB P b m) : CB P (b + 1) (x_wm m i v) := by
  obtain ⟨t, jf, hc, ht⟩ := h
  refine ⟨t + 1, jf, CI_anew hc (fun j _ => ?_) ?_ ?_ hc.2.2.2.1, by omega⟩
  · unfold x_wm
    rw [w_place (by decide), oj_row_n (by decide)]
  · unfold x_wm
    rw [w_same, hc.1, nI_1]
  · unfold x_wm
    rw [w_other (by omega), oj_row_n (by decide)]
    exact hc.2.2.1
def sST (a j : Nat) : Prop := (a = 6 ∧ (j = 2 ∨ j = 14)) ∨ a = 7 ∨ (a = 41 ∧ j = 1) ∨ a = 42
/-- stones have come on both sides -/
theorem IV_stones {L : Nat} {xs : Nat → Int32} {n k c : Nat} {ρ : Nat → Nat} {P : Option (List (List Int32 × List Int32))} {nb : Nat} {m m' : ej_M} (hI : IV L xs n k ρ P nb m) (hs : oj_sm sST m m') (hc : n + c ≤ 8) (h6 : m'.1 6 2 = nI (n + c)) (h41 : m'.1 41 1 = nI (n + c)) (hold : ∀ i, i < n → m'.1 7 i = m.1 7 i ∧ m'.1 42 i = m.1 42 i) (hnew : ∀ q, q < c → m'.1 42 (n + q) = m'.1 7 (n + q) ∧ i_wt (m'.1 7 (n + q))) : IV L xs (n + c) k ρ P nb m' := by
  obtain ⟨⟨h1, h2, h3, h4, h5, h6', h7, h8, h9, h10, h11, h12, h13, h14, h15⟩, hB, hCh, hD, hE, hF, hG⟩ := hI
  have f : ∀ a, (a = 8 ∨ a = 43 ∨ a = 4 ∨ a = 49 ∨ a = 50 ∨ a = 51 ∨ a = 52 ∨ a = 53) → m'.1 a = m.1 a := fun a ha => funext fun j => hs.2 a j (by unfold sST; omega)
  refine ⟨⟨hc, by omega, h6, h41, (hs.2 6 4 (by unfold sST; omega)).trans h5, (hs.2 41 4 (by unfold sST; omega)).trans h6', fun i hi => ?_, fun p hp => ?_, h9, ?_, ?_, ?_, ?_, LX_congr (hs.2 1 6 (by unfold sST; omega)) (fun j _ => hs.2 4 j (by unfold sST; omega)) h14, LM_congr (hs.2 41 27 (by unfold sST; omega)) (f 51 (by omega)) (f 49 (by omega)) (f 50 (by omega)) (f 52 (by omega)) (f 53 (by omega)) h15⟩, IB_fr (by omega) (fun a j q => hs.2 a j ?_) hB, IC_fr (by omega) (fun a j q => hs.2 a j ?_) hCh, ID_fr (fun a j q => hs.2 a j ?_) hD, IE_fr (fun a j q => hs.2 a j ?_) hE, IF_fr (Nat.le_refl _) (fun a j q => hs.2 a j ?_) hs.1 hF, IG_fr (fun a j q => hs.2 a j ?_) hG⟩
  · by_cases hin : i < n
    · rw [(hold i hin).1, (hold i hin).2]; exact h7 i hin
    · obtain ⟨q, rfl⟩ : ∃ q, i = n + q := ⟨i - n, by omega⟩
      exact hnew q (by omega)
  · rw [f 8 (by omega), f 43 (by omega)]
    have := h8 p hp
    exact ⟨this.1, this.2.1, by omega⟩
  · rw [hs.2 41 5 (by unfold sST; omega), hs.2 6 5 (by unfold sST; omega)]; exact h10
  · rw [hs.2 6 5 (by unfold sST; omega)]; exact h11
  · rw [hs.2 41 6 (by unfold sST; omega), hs.2 6 6 (by unfold sST; omega)]; exact h12
  · rw [hs.2 41 7 (by unfold sST; omega), hs.2 6 7 (by unfold sST; omega)]; exact h13
  · unfold sIB at q; unfold sST; omega
  · unfold sIC at q; unfold sST; omega
  · unfold sID at q; unfold sST; omega
  · unfold sIE at q; unfold sST; omega
  · unfold sIF at q; unfold sST; omega
  · unfold sST; omega
theorem op_stone (v : Int32) : OP (f_X10_stone v) (f_X11_stone v) := by
  by_cases hv : i_wt v
  · intro L xs b m ⟨n, k, ρ, P, nb, hI, hC⟩ hb
    have h1 := hI.1.1
    have h3 := hI.1.2.2.1
    have h4 := hI.1.2.2.2.1
    unfold f_X10_stone
    by_cases h8 : n < 8
    · rw [x_bring h3 h8 hv, o_bs]
      refine wp_some ⟨⟨?_, ?_⟩, ?_⟩
      · unfold x_wm
        simp only [oj_row_rd, ej_w_rd, upd_rd, reduceIte, Nat.reduceEqDiff]
      · unfold x_wm
        simp only [oj_row_rd, ej_w_rd, upd_rd, reduceIte, Nat.reduceEqDiff]
      · unfold f_X11_stone
        rw [m_isWeightY hv, o_bs, if_neg i10]
        have e41 : (ej_w (x_wm m n v) 6 2 (nI (n + 1))).1 41 1 = nI n := by
          unfold x_wm
          simp only [oj_row_rd, ej_w_rd, upd_rd, reduceIte, Nat.reduceEqDiff]
          exact h4
        simp only
        rw [e41, if_neg (fun e => by have := nI_inj (b := 8) (by omega) (by decide) e; omega), m_add e41 h8, o_bs]
        refine wp_some ⟨rfl, n + 1, k, ρ, P, nb, IV_stones hI ?_ (by omega) ?_ ?_ (fun i hi => ?_) (fun q hq => ?_), ?_⟩
        · unfold x_wm
          refine sm_trans (sm_trans (sm_trans (sm_trans (sm_row fun j hj => absurd ?_ hj) (sm_w ?_)) (sm_w ?_)) (sm_row fun j hj => absurd ?_ hj)) (sm_w ?_) <;> · unfold sST; omega
        · unfold x_wm
          simp only [oj_row_rd, ej_w_rd, upd_rd, reduceIte, Nat.reduceEqDiff]
        · exact w_same
        · unfold x_wm
          simp only [oj_row_rd, ej_w_rd, upd_rd, reduceIte, Nat.reduceEqDiff]
          rw [if_neg (by omega), if_neg (by omega)]
          exact ⟨rfl, rfl⟩
        · have : q = 0 := by omega
          subst this
          unfold x_wm
          simp only [oj_row_rd, ej_w_rd, upd_rd, reduceIte, Nat.reduceEqDiff, Nat.add_zero]
          exact ⟨trivial, hv⟩
        · have : CB P (b + oST) (ej_w (x_wm m n v) 6 2 (nI (n + 1))) := CB_le (b := b + 1) (CB_congr (CB_weigh (i := n) (v := v) hC) (fun i _ => by rw [w_place (by decide)]) (by rw [w_other (by omega)]) (by rw [w_other (by omega)]) (fun i _ => by rw [w_place (by decide)])) (by unfold oST; omega)
          exact CB_congr this (fun i _ => by rw [w_place (by decide), oj_row_n (by decide)]) (by rw [w_place (by decide), oj_row_n (by decide)]) (by rw [w_place (by decide), oj_row_n (by decide)]) (fun i _ => by rw [w_place (by decide), oj_row_n (by decide)])
    · rw [x_bringF h3 (by omega) hv, o_bs]
      refine wp_some ⟨⟨rfl, rfl⟩, ?_⟩
      unfold f_X11_stone
      rw [m_isWeightY hv, o_bs, if_neg i10]
      simp only
      rw [h4, if_pos (by rw [show n = 8 by omega]; decide)]
      exact wp_some ⟨rfl, n, k, ρ, P, nb, hI, CB_step hC⟩
  · refine OP_no (v := -1) (fun m => ?_) (fun m => ?_)
    · unfold f_X10_stone
      rw [x_bringN hv]; rfl
    · unfold f_X11_stone
      rw [m_isWeightN hv, o_bs, if_pos rfl]
