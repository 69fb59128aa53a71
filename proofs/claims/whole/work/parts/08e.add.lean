/-! body, feed, stone -/
theorem oj_row_rd {m : ej_M} {a b : Nat} {f : Nat → Int32} : (oj_row m a f).1 b = if b = a then f else m.1 b := rfl
theorem ej_w_rd {m : ej_M} {a b j : Nat} {v : Int32} : (ej_w m a j v).1 b = if b = a then upd (m.1 a) j v else m.1 b := by rw [ej_w_row]; rfl
theorem upd_rd {f : Nat → Int32} {i j : Nat} {v : Int32} : upd f j v i = if i = j then v else f i := rfl
theorem CB_fr {P : Option (List (List Int32 × List Int32))} {b : Nat} {S : Nat → Nat → Prop} {m m' : ej_M} (hs : oj_sm S m m') (h : CB P b m) (h1 : ∀ i, ¬ S 10 i) (h2 : ¬ S 6 14) (h3 : ¬ S 6 15) (h4 : ∀ i, i < 8 → ¬ S 7 i) : CB P b m' :=
  CB_congr h (fun i _ => hs.2 10 i (h1 i)) (hs.2 6 14 h2) (hs.2 6 15 h3) (fun i hi => hs.2 7 i (h4 i hi))
def SE1 (a j : Nat) : Prop := (a = 34 ∧ j = 1) ∨ a = 35 ∨ (a = 41 ∧ j = 43) ∨ a = 64
theorem OP_no {fx fm : ej_M → Option (Int32 × ej_M)} {v : Int32} (hx : ∀ m, fx m = some (v, m)) (hm : ∀ m, fm m = some (v, m)) : OP fx fm := OP_same fun L xs n k ρ P nb m hI => ⟨v, hx m, hm m⟩
theorem i_lt {i N : Nat} (h : i < N) (hN : N < 2 ^ 31) : nI i < nI N := (nI_ltI (by omega) hN).mpr h
theorem op_body (v : Int32) : OP (f_X10_body v) (f_X11_body v) := by
  rcases r_cases v 8 with ⟨t, ht, rfl⟩ | hN
  · intro L xs b m ⟨n, k, ρ, P, nb, hI, hC⟩ hb
    obtain ⟨hA, hB, hCh, hD, ⟨e1, e2, e3, e4, r, e5, e6, e7, e8⟩, hF, hG⟩ := hI
    unfold f_X10_body f_X0_add
    rw [if_neg (nI_pos (by omega)), if_pos (show nI t < 8 from i_lt (N := 8) ht (by decide)), e2]
    have hm : ∀ m', f_X11_body (nI t) m' = if (m'.1 41 43) = 50 then some ((-3), m') else (oj_st 0 m' 64 (m'.1 41 43) (nI t)).bind fun m2 => (oj_pf m2 41 43 ((m2.1 41 43) + 1)).bind fun m3 => some (((m3.1 41 43) - 1), m3) := fun m' => by
      unfold f_X11_body
      rw [m_inKY (N := 8) ht (by decide) (by decide), o_bs, if_neg i10]
    by_cases h50 : nb < 50
    · rw [if_pos (show nI nb < 50 from i_lt (N := 50) h50 (by decide)), p_lay1 ar_35 h50, o_bs]
      unfold oj_pf
      rw [o_bs, o_bs]
      refine wp_some ⟨⟨?_, ?_⟩, ?_⟩
      · rw [w_place (by decide), oj_row_n (by decide)]
      · rw [w_place (by decide), oj_row_n (by decide)]
      · rw [hm]
        simp only [oj_row_rd, ej_w_rd, upd_rd, reduceIte, Nat.reduceEqDiff]
        rw [e2, e3, if_neg (fun e => by have := nI_inj (b := 50) (by omega) (by decide) e; omega), oj_ar_st ar_64 h50, o_bs]
        unfold oj_pf
        rw [o_bs]
        refine wp_some ⟨?_, ?_⟩
        · simp only [oj_row_rd, ej_w_rd, upd_rd, reduceIte, Nat.reduceEqDiff]
          rw [e3]
        · simp only [oj_row_rd, ej_w_rd, upd_rd, reduceIte, Nat.reduceEqDiff]
          rw [e3, nI_1]
          have hs : oj_sm SE1 m (ej_w (oj_row (ej_w (oj_row m 35 (upd (m.1 35) nb (nI t))) 34 1 (nI (nb + 1))) 64 (upd (m.1 64) nb (nI t))) 41 43 (nI (nb + 1))) := by
            refine sm_trans (sm_trans (sm_trans (sm_row fun j hj => absurd ?_ hj) (sm_w ?_)) (sm_row fun j hj => absurd ?_ hj)) (sm_w ?_) <;> · unfold SE1; omega
          refine ⟨n, k, ρ, P, nb + 1, ⟨IA_fr (fun a j q => hs.2 a j ?_) hA, IB_fr (Nat.le_refl _) (fun a j q => hs.2 a j ?_) hB, IC_fr (Nat.le_refl _) (fun a j q => hs.2 a j ?_) hCh, ID_fr (fun a j q => hs.2 a j ?_) hD, ⟨by omega, ?_, w_same, fun i hi => ?_, r, e5, ?_, ?_, fun i hi h24 => ?_⟩, IF_fr (Nat.le_succ _) (fun a j q => hs.2 a j ?_) hs.1 hF, IG_fr (fun a j q => hs.2 a j ?_) hG⟩, CB_fr hs (CB_step hC) (fun i => ?_) ?_ ?_ (fun i hi => ?_)⟩
          · unfold sIA at q; unfold SE1; omega
          · unfold sIB at q; unfold SE1; omega
          · unfold sIC at q; unfold SE1; omega
          · unfold sID at q; unfold SE1; omega
          · simp only [oj_row_rd, ej_w_rd, upd_rd, reduceIte, Nat.reduceEqDiff]
          · simp only [oj_row_rd, ej_w_rd, upd_rd, reduceIte, Nat.reduceEqDiff]
            by_cases e : i = nb
            · simp only [if_pos e]; exact ⟨trivial, t, ht, rfl⟩
            · simp only [if_neg e]; exact e4 i (by omega)
          · exact (hs.2 34 3 (by unfold SE1; omega)).trans e6
          · exact (hs.2 41 45 (by unfold SE1; omega)).trans e7
          · rw [hs.2 65 i (by unfold SE1; omega), hs.2 36 i (by unfold SE1; omega)]; exact e8 i hi h24
          · unfold sIF at q; unfold SE1; omega
          · unfold SE1; omega
          · unfold SE1; omega
          · unfold SE1; omega
          · unfold SE1; omega
          · unfold SE1; omega
    · rw [if_neg (show ¬ nI nb < 50 from fun q => h50 ((nI_ltI (b := 50) (by omega) (by decide)).mp q)), o_bs]
      refine wp_some ⟨⟨rfl, rfl⟩, ?_⟩
      rw [hm, e3, if_pos (by rw [show nb = 50 by omega]; decide)]
      exact wp_some ⟨rfl, n, k, ρ, P, nb, ⟨hA, hB, hCh, hD, ⟨e1, e2, e3, e4, r, e5, e6, e7, e8⟩, hF, hG⟩, CB_step hC⟩
  · refine OP_no (v := -1) (fun m => ?_) (fun m => ?_)
    · unfold f_X10_body f_X0_add
      rcases r_no (by decide) hN with h | h
      · rw [if_pos h]; rfl
      · by_cases h0 : v < 0
        · rw [if_pos h0]; rfl
        · rw [if_neg h0, if_neg (show ¬ v < 8 from Int32.not_lt.mpr h)]; rfl
    · unfold f_X11_body
      rw [m_inK (N := 8) (by decide) (by decide) hN, o_bs, if_pos rfl]
def SD1 (a j : Nat) : Prop := (a = 1 ∧ j = 1) ∨ a = 2 ∨ (a = 41 ∧ j = 15) ∨ a = 48
theorem nar_byte (v : Int32) : vp_nar .byte ((Int32.toInt8 v).toInt32) = (Int32.toInt8 v).toInt32 := by
  show (Int32.toInt8 ((Int32.toInt8 v).toInt32)).toInt32 = (Int32.toInt8 v).toInt32
  rw [Int8.toInt8_toInt32]
theorem op_feed (v : Int32) : OP (f_X10_feed v) (f_X11_feed v) := by
  rcases r_cases v 256 with ⟨t, ht, rfl⟩ | hN
  · intro L xs b m ⟨n, k, ρ, P, nb, hI, hC⟩ hb
    obtain ⟨hA, hB, hCh, ⟨l, d1, d2, d3, d4⟩, hE, hF, hG⟩ := hI
    unfold f_X10_feed f_X2_hear
    rw [if_neg (nI_pos (by omega)), if_pos (show nI t ≤ 255 from (nI_leI (b := 255) (by omega) (by decide)).mpr (by omega)), d2]
    have hm : ∀ m', f_X11_feed (nI t) m' = if (m'.1 41 15) = 120 then some ((-3), m') else (oj_st 1 m' 48 (m'.1 41 15) ((nI t).toInt8.toInt32)).bind fun m2 => (oj_pf m2 41 15 ((m2.1 41 15) + 1)).bind fun m3 => some ((m3.1 41 15), m3) := fun m' => by
      unfold f_X11_feed
      rw [m_inKY (N := 256) ht (by decide) (by decide), o_bs, if_neg i10, nar_byte]
    by_cases h50 : l < 120
    · rw [if_pos (show nI l < 120 from i_lt (N := 120) h50 (by decide)), p_lay1 ar_2 h50, o_bs]
      unfold oj_pf
      rw [o_bs, o_bs]
      refine wp_some ⟨⟨?_, ?_⟩, ?_⟩
      · rw [w_place (by decide), oj_row_n (by decide)]
      · rw [w_place (by decide), oj_row_n (by decide)]
      · rw [hm]
        simp only [oj_row_rd, ej_w_rd, upd_rd, reduceIte, Nat.reduceEqDiff]
        rw [d2, d3, if_neg (fun e => by have := nI_inj (b := 120) (by omega) (by decide) e; omega), oj_art_st ar_48 h50, o_bs]
        unfold oj_pf
        rw [o_bs]
        refine wp_some ⟨?_, ?_⟩
        · simp only [oj_row_rd, ej_w_rd, upd_rd, reduceIte, Nat.reduceEqDiff]
          rw [d3]
        · simp only [oj_row_rd, ej_w_rd, upd_rd, reduceIte, Nat.reduceEqDiff]
          rw [d3, nI_1]
          have hs : oj_sm SD1 m (ej_w (oj_row (ej_w (oj_row m 2 (upd (m.1 2) l (nI t))) 1 1 (nI (l + 1))) 48 (upd (m.1 48) l ((nI t).toInt8.toInt32))) 41 15 (nI (l + 1))) := by
            refine sm_trans (sm_trans (sm_trans (sm_row fun j hj => absurd ?_ hj) (sm_w ?_)) (sm_row fun j hj => absurd ?_ hj)) (sm_w ?_) <;> · unfold SD1; omega
          refine ⟨n, k, ρ, P, nb, ⟨IA_fr (fun a j q => hs.2 a j ?_) hA, IB_fr (Nat.le_refl _) (fun a j q => hs.2 a j ?_) hB, IC_fr (Nat.le_refl _) (fun a j q => hs.2 a j ?_) hCh, ⟨l + 1, by omega, ?_, w_same, fun i hi => ?_⟩, IE_fr (fun a j q => hs.2 a j ?_) hE, IF_fr (Nat.le_refl _) (fun a j q => hs.2 a j ?_) hs.1 hF, IG_fr (fun a j q => hs.2 a j ?_) hG⟩, CB_fr hs (CB_step hC) (fun i => ?_) ?_ ?_ (fun i hi => ?_)⟩
          · unfold sIA at q; unfold SD1; omega
          · unfold sIB at q; unfold SD1; omega
          · unfold sIC at q; unfold SD1; omega
          · simp only [oj_row_rd, ej_w_rd, upd_rd, reduceIte, Nat.reduceEqDiff]
          · simp only [oj_row_rd, ej_w_rd, upd_rd, reduceIte, Nat.reduceEqDiff]
            by_cases e : i = l
            · simp only [if_pos e]; exact ⟨t, ht, rfl, rfl⟩
            · simp only [if_neg e]; exact d4 i (by omega)
          · unfold sIE at q; unfold SD1; omega
          · unfold sIF at q; unfold SD1; omega
          · unfold SD1; omega
          · unfold SD1; omega
          · unfold SD1; omega
          · unfold SD1; omega
          · unfold SD1; omega
    · rw [if_neg (show ¬ nI l < 120 from fun q => h50 ((nI_ltI (b := 120) (by omega) (by decide)).mp q)), o_bs]
      refine wp_some ⟨⟨rfl, rfl⟩, ?_⟩
      rw [hm, d3, if_pos (by rw [show l = 120 by omega]; decide)]
      exact wp_some ⟨rfl, n, k, ρ, P, nb, ⟨hA, hB, hCh, ⟨l, d1, d2, d3, d4⟩, hE, hF, hG⟩, CB_step hC⟩
  · refine OP_no (v := -1) (fun m => ?_) (fun m => ?_)
    · unfold f_X10_feed f_X2_hear
      by_cases h0 : v < 0
      · rw [if_pos h0]; rfl
      · rw [if_neg h0, if_neg ?_]
        · rfl
        · intro q
          obtain ⟨j, hj, rfl⟩ := nI_of h0
          have := (nI_leI (b := 255) hj (by decide)).mp q
          exact hN j (by omega) rfl
    · unfold f_X11_feed
      rw [m_inK (N := 256) (by decide) (by decide) hN, o_bs, if_pos rfl]
