/-! ends, aside -/
theorem xk_allC {P : Option (List (List Int32 × List Int32))} {w : Nat → Int32} {g : Int32} {o n b N : Nat} {ρ : Nat → Nat} {m : ej_M} (hK : XK P w g m) (hC : CN P n b m) (hb : b < 2 ^ 28) (hn : n < 10) (ho : oj_ar o N) (hN : n ≤ N) (hr : ∀ q, q < n → m.1 o q = nI (ρ q) ∧ ρ q < 8) (ho2 : o ≠ 5 ∧ o ≠ 6 ∧ o ≠ 10) :
    oj_wp (f_X4_isLawful o (nI n) m) fun q => q.1 = (if LWf P w g n ρ then 1 else 0) ∧ oj_sm XC m q.2 ∧ CN P n b q.2 := by
  have hX : XR P o n ρ b m := ⟨hK.1, hC, hb, hn, ⟨N, ho, hN⟩, fun q hq => ⟨(hr q hq).1, by have := (hr q hq).2; omega⟩⟩
  refine wp_mono (x_all hX ho2) fun q hq => ⟨?_, hq.2.1, hq.2.2⟩
  rw [hq.1]
  unfold LWf
  rw [lwA_congr fun p hp => xk_lw hK (fun q hq => (hr q hq).2) hp]
theorem xk_atC {P : Option (List (List Int32 × List Int32))} {w : Nat → Int32} {g : Int32} {o n p b N : Nat} {ρ : Nat → Nat} {m : ej_M} (hK : XK P w g m) (hC : CN P n b m) (hb : b < 2 ^ 28) (hn : n < 10) (ho : oj_ar o N) (hN : n ≤ N) (hr : ∀ q, q < n → m.1 o q = nI (ρ q) ∧ ρ q < 8) (hp : p < n) :
    oj_wp (f_X4_isLawfulAt o (nI n) (nI p) m) fun q => q.1 = (if lw P w g ρ n p then 1 else 0) ∧ oj_sm XC m q.2 ∧ CN P n b q.2 := by
  have hX : XR P o n ρ b m := ⟨hK.1, hC, hb, hn, ⟨N, ho, hN⟩, fun q hq => ⟨(hr q hq).1, by have := (hr q hq).2; omega⟩⟩
  refine wp_mono (x_at hX hp) fun q hq => ⟨?_, hq.2.1, hq.2.2⟩
  rw [hq.1, xk_lw hK (fun q hq => (hr q hq).2) hp]
def sst (S j : Nat) : Nat := s_rw (sb S) (fun s => s) 8 j
theorem sst_lt {S N j : Nat} (hN : N ≤ 8) (hS : S < 2 ^ N) (hj : j < bc S) : sst S j < N := by
  unfold sst
  rw [s_rw_stop 8 hN (sb_above hS)]
  exact s_rw_lt N (fun q hq => hq) j (by rw [bc_n hN hS] at hj; exact hj)
theorem sst_at {S s : Nat} (hs : s < 8) (h : sb S s = true) : sst S (s_cn (sb S) s) = s := by
  unfold sst
  rw [s_rw_keep (i := s + 1) (by rw [s_cn_s1 h]; omega) 8 (by omega)]
  exact s_rw_s1 h
theorem bc_pos : ∀ S, S < 256 → S ≠ 0 → 1 ≤ bc S := by decide +kernel
def fwF (P : Option (List (List Int32 × List Int32))) (w : Nat → Int32) (g : Int32) (S t : Nat) : Bool := LWf P w g (bc S) (er (sst S) (2 * t) (zb (2 * t) (bc S)) (bc S))
def FWs (f : Nat → Bool) (c : Nat) (v : Int32) : Prop := (∃ t, t < c ∧ f t = true ∧ (∀ t', t' < t → f t' = false) ∧ v = nI (2 * t)) ∨ ((∀ t, t < c → f t = false) ∧ v = -2)
theorem FWs_eq {f : Nat → Bool} {c : Nat} {v v' : Int32} (h : FWs f c v) (h' : FWs f c v') : v = v' := by
  rcases h with ⟨t, a1, a2, a3, rfl⟩ | ⟨a1, rfl⟩
  · rcases h' with ⟨t', b1, b2, b3, rfl⟩ | ⟨b1, rfl⟩
    · have : t = t' := by
        rcases Nat.lt_trichotomy t t' with k | k | k
        · rw [b3 t k] at a2; cases a2
        · exact k
        · rw [a3 t' k] at b2; cases b2
      rw [this]
    · rw [b1 t a1] at a2; cases a2
  · rcases h' with ⟨t', b1, b2, b3, rfl⟩ | ⟨b1, rfl⟩
    · rw [a1 t' b1] at b2; cases b2
    · rfl
theorem FWs_neg {f : Nat → Bool} {c : Nat} {v : Int32} (hc : c ≤ 1000) (h : FWs f c v) : v < 0 ↔ v = -2 := by
  rcases h with ⟨t, a1, a2, a3, rfl⟩ | ⟨a1, rfl⟩
  · exact ⟨fun q => absurd q (nI_pos (by omega)), fun q => absurd q (nI_neq2 (by omega))⟩
  · exact ⟨fun _ => rfl, fun _ => by decide⟩
def FWr (P : Option (List (List Int32 × List Int32))) (w : Nat → Int32) (g : Int32) (S : Nat) (v : Int32) : Prop := (S = 0 ∧ v = 0) ∨ (S ≠ 0 ∧ FWs (fwF P w g S) (2 ^ (bc S - 1)) v)
theorem FWr_eq {P : Option (List (List Int32 × List Int32))} {w : Nat → Int32} {g : Int32} {S : Nat} {v v' : Int32} (h : FWr P w g S v) (h' : FWr P w g S v') : v = v' := by
  rcases h with ⟨a1, rfl⟩ | ⟨a1, a2⟩
  · rcases h' with ⟨b1, rfl⟩ | ⟨b1, b2⟩
    · rfl
    · exact absurd a1 b1
  · rcases h' with ⟨b1, rfl⟩ | ⟨b1, b2⟩
    · exact absurd b1 a1
    · exact FWs_eq a2 b2
theorem pw_c (S : Nat) : 2 ^ (bc S - 1) ≤ 256 := pw_8 (by have := bc_8 S; omega)
theorem FWr_neg {P : Option (List (List Int32 × List Int32))} {w : Nat → Int32} {g : Int32} {S : Nat} {v : Int32} (h : FWr P w g S v) : v < 0 ↔ v = -2 := by
  rcases h with ⟨a1, rfl⟩ | ⟨a1, a2⟩
  · exact ⟨fun q => absurd q (by decide), fun q => absurd q (by decide)⟩
  · exact FWs_neg (by have := pw_c S; omega) a2
theorem pw_dbl {n : Nat} (h : 1 ≤ n) : 2 ^ n = 2 * 2 ^ (n - 1) := by
  obtain ⟨k, rfl⟩ : ∃ k, n = k + 1 := ⟨n - 1, by omega⟩
  rw [Nat.add_sub_cancel, Nat.pow_succ, Nat.mul_comm]
theorem x_fway {P : Option (List (List Int32 × List Int32))} {w : Nat → Int32} {g : Int32} {S N b : Nat} {m : ej_M} (hN : N ≤ 8) (hS : S < 2 ^ N) (hK : XK P w g m) (hb : b + 1 < 2 ^ 28) (hC : CB P b m) :
    oj_wp (f_X7_firstWay (nI S) m) fun q => FWr P w g S q.1 ∧ oj_sm SX m q.2 ∧ CB P (b + 1) q.2 := by
  have h256 := pw_8 hN
  unfold f_X7_firstWay f_X7_firstWay_L4
  refine wp_loop (fun i (s : Int32 × Int32 × ej_M) => s.1 = nI (s_cn (sb S) i) ∧ s.2.1 = nI i ∧ oj_sm (fun a _ => a = 23) m s.2.2 ∧ ∀ j, j < s_cn (sb S) i → s.2.2.1 23 j = nI (s_rw (sb S) (fun s => s) i j)) 8 (by decide) (fun i s hi hI => ?_) (fun s hI => ?_) (i0 := 0) (by decide) ⟨rfl, rfl, sm_refl, fun j hj => absurd hj (Nat.not_lt_zero _)⟩
  · obtain ⟨a, a', m'⟩ := s
    obtain ⟨rfl, rfl, i1, i2⟩ := hI
    simp only at i1 i2 ⊢
    have hle := s_cn_le (sb S) i
    unfold f_X7_firstWay_L4b
    rw [if_neg (show ¬ (8 : Int32) ≤ nI i from fun q => by have := (nI_leI (a := 8) (by decide) (by omega)).mp q; omega)]
    by_cases e : sb S i = true
    · rw [if_neg (fun q => ((sb_0 (by omega) (by omega)).mp q) e), p_lay1 ar_23 (by omega), o_bs, nI_1, nI_1]
      refine wp_inl ⟨by rw [s_cn_s1 e], rfl, sm_trans i1 (sm_a fun j => rfl), fun j hj => ?_⟩
      rw [s_cn_s1 e] at hj
      simp only
      rw [oj_row_s]
      unfold upd
      by_cases e2 : j = s_cn (sb S) i
      · rw [if_pos e2, e2, s_rw_s1 e]
      · rw [if_neg e2, s_rw_s0 (fun z => e2 z.2)]; exact i2 j (by omega)
    · rw [if_pos ((sb_0 (by omega) (by omega)).mpr e), nI_1]
      refine wp_inl ⟨by rw [s_cn_s0 e], rfl, i1, fun j hj => ?_⟩
      rw [s_cn_s0 e] at hj
      rw [s_rw_s0 (fun z => e z.1)]; exact i2 j hj
  · obtain ⟨a, a', m1⟩ := s
    obtain ⟨rfl, rfl, i1, i2⟩ := hI
    simp only at i1 i2 ⊢
    unfold f_X7_firstWay_L4b
    rw [if_pos (show (8 : Int32) ≤ nI 8 from Int32.le_refl _)]
    refine wp_map ?_
    have hs1 : oj_sm SX m m1 := sm_mono i1 fun a j q => by unfold SX; omega
    have hC1 : CN P (bc S) (b + 1) m1 := CB_N (CB_fr i1 hC (fun i => by omega) (by omega) (by omega) (fun i hi => by omega)) _
    have hn := bc_le hN hS
    rw [show s_cn (sb S) 8 = bc S from rfl] at i2 ⊢
    unfold f_X7_firstWay_L41
    by_cases h0 : S = 0
    · subst h0
      rw [show oj_FU = 99999 + 1 from rfl]
      refine wp_loop1 ?_
      simp only
      unfold f_X7_firstWay_L41b f_X7_setAtEnds f_X7_setAtEnds_L31
      rw [show bc 0 = 0 from rfl] at hC1 ⊢
      rw [if_neg (show ¬ ((1 : Int32) <<< (nI 0 &&& 31)) ≤ 0 by decide), show f_J6_bitCount_0f7a4 0 m1 = some (nI (bc 0), m1) from x_bits (S := 0) (by decide) m1, o_bs]
      simp only
      rw [show f_X10_at 23 0 m1 = some (m1.1 23 0, m1) from p_at1 (k := 0) ar_23 (by decide) m1, o_bs]
      simp only
      rw [p_layN (show nI 0 - 1 - nI (bc 0) < 0 by decide), o_bs]
      simp only
      have hL : ∀ x y : Int32, oj_loop (fun q : (Int32 × Int32 × Int32 × ej_M) => f_X7_setAtEnds_L31b (nI 0) 0 q.1 q.2.1 q.2.2.1 q.2.2.2) oj_FU (x, y, 1, m1) = some ((), m1) := fun x y => by
        rw [show oj_FU = 99999 + 1 from rfl]
        refine wp_get (wp_loop1 ?_)
        simp only
        unfold f_X7_setAtEnds_L31b
        rw [if_pos (show nI 0 ≤ 1 by decide)]
        exact wp_inr rfl
      rw [hL, o_bs]
      simp only
      refine wp_bind (wp_mono (xk_all (n := 0) (ρ := fun _ => 0) (b := b + 1) (XK_go hs1 hK) hC1 hb (by decide) ar_24 (by decide) (fun q hq => absurd hq (Nat.not_lt_zero _)) (by decide)) fun q hq => ?_)
      have ht : LWf P w g 0 (fun _ => 0) = true := by unfold LWf lwA; exact decide_eq_true fun p hp => absurd hp (Nat.not_lt_zero _)
      rw [hq.1, if_pos ht, if_neg i10]
      exact wp_inr ⟨Or.inl ⟨rfl, rfl⟩, sm_trans hs1 hq.2.1, CN_B hq.2.2⟩
    · have hpos := bc_pos S (by omega) h0
      have hdbl := pw_dbl hpos
      have hpc := pw_c S
      refine wp_loop (fun t (s : Int32 × ej_M) => s.1 = nI (2 * t) ∧ oj_sm SX m s.2 ∧ CN P (bc S) (b + 1) s.2 ∧ (∀ j, j < bc S → s.2.1 23 j = nI (sst S j)) ∧ ∀ t', t' < t → fwF P w g S t' = false) (2 ^ (bc S - 1)) (by unfold oj_FU; omega) (fun t s ht hI => ?_) (fun s hI => ?_) (i0 := 0) (by omega) ⟨rfl, hs1, hC1, i2, fun t' h => absurd h (Nat.not_lt_zero _)⟩
      · obtain ⟨a, m2⟩ := s
        obtain ⟨rfl, j1, j2, j3, j4⟩ := hI
        simp only at j1 j2 j3 j4 ⊢
        unfold f_X7_firstWay_L41b
        rw [sl_pow _ (by omega), if_neg (fun q => by have := (nI_leI (by omega) (by omega)).mp q; omega)]
        refine wp_bind (wp_mono (x_setEnds (st := sst S) hpos (by omega) (show 2 * t < 2 ^ bc S by omega) (by omega) j3) fun q hq => ?_)
        obtain ⟨q1, q2⟩ := hq
        have hs2 : oj_sm SX m q.2 := sm_trans j1 (sm_mono q1 fun a j e => by unfold SX; omega)
        have hzo := zo_sum (2 * t) (bc S - 1)
        rw [show bc S - 1 + 1 = bc S by omega] at hzo
        refine wp_bind (wp_mono (xk_allC (n := bc S) (ρ := er (sst S) (2 * t) (zb (2 * t) (bc S)) (bc S)) (b := b + 1) (XK_go hs2 hK) (CN_fr q1 j2 (fun i => by omega) (by omega) (by omega) (fun i hi => by omega)) hb (by omega) ar_24 (by omega) (fun p hp => ⟨q2 p hp, ?_⟩) (by decide)) fun r hr => ?_)
        · have := er_lt (st := sst S) (way := 2 * t) (n := bc S) (N := N) (fun j hj => sst_lt hN hS hj) (bc S) (Nat.le_refl _) hpos p (by omega) (by omega)
          omega
        obtain ⟨r1, r2, r3⟩ := hr
        have hs3 := sm_trans hs2 (sm_XC r2)
        by_cases hl : fwF P w g S t = true
        · unfold fwF at hl
          rw [r1, if_pos hl, if_neg i10]
          exact wp_inr ⟨Or.inr ⟨h0, Or.inl ⟨t, ht, hl, j4, rfl⟩⟩, hs3, CN_B r3⟩
        · have hlf : fwF P w g S t = false := by simpa using hl
          unfold fwF at hl
          rw [r1, if_neg hl, if_pos rfl, show nI (2 * t) + 2 = nI (2 * (t + 1)) from nI_add (2 * t) 2]
          refine wp_inl ⟨rfl, hs3, r3, fun j hj => ?_, fun t' ht' => ?_⟩
          · simp only
            rw [r2.2 23 j (by unfold XC; omega), q1.2 23 j (by omega)]
            exact j3 j hj
          · by_cases e : t' = t
            · rw [e]; exact hlf
            · exact j4 t' (by omega)
      · obtain ⟨a, m2⟩ := s
        obtain ⟨rfl, j1, j2, j3, j4⟩ := hI
        simp only at j1 j2 j3 j4 ⊢
        unfold f_X7_firstWay_L41b
        rw [sl_pow _ (by omega), if_pos ((nI_leI (by omega) (by omega)).mpr (by omega))]
        exact wp_inr ⟨Or.inr ⟨h0, Or.inr ⟨j4, rfl⟩⟩, j1, CN_B j2⟩
theorem m_lay {S N way : Nat} {m : ej_M} (hN : N ≤ 8) (hS : S < 2 ^ N) (hpos : 1 ≤ bc S) (hw : way < 2 ^ bc S) (h1 : m.1 41 1 = nI N) :
    oj_wp (f_X11_layEnds (nI S) (nI way) m) fun q => oj_sm SE m q.2 ∧ q.2.1 41 29 = nI (bc S) ∧ ∀ p, p < bc S → q.2.1 56 p = nI (er (sst S) way (zb way (bc S)) (bc S) p) := by
  have h256 := pw_8 hN
  have hn := bc_le hN hS
  have hw256 := pw_8 (show bc S ≤ 8 by omega)
  have hbc := bc_n hN hS
  have hzo := zo_sum way (bc S - 1)
  rw [show bc S - 1 + 1 = bc S by omega] at hzo
  unfold f_X11_layEnds f_X11_layEnds_L8
  refine wp_loop (fun s (x : Int32 × Int32 × Int32 × ej_M) => x = (nI (zb way (s_cn (sb S) s)), nI (s_cn (sb S) s), nI s, m)) N (by unfold oj_FU; omega) (fun s x hs hI => ?_) (fun x hI => ?_) (i0 := 0) (by omega) rfl
  · rw [hI]
    have hle := s_cn_le (sb S) s
    simp only
    unfold f_X11_layEnds_L8b
    rw [h1, if_neg (fun q => by have := (nI_leI (by omega) (by omega)).mp q; omega)]
    by_cases e : sb S s = true
    · rw [if_neg (fun q => ((sb_0 (by omega) (by omega)).mp q) e)]
      by_cases e0 : s_cn (sb S) s = 0
      · rw [e0, if_pos (show nI 0 ≤ 0 by decide)]
        refine wp_inl ?_
        rw [s_cn_s1 e, e0, nI_1, nI_1]
        rfl
      · rw [if_neg (show ¬ nI (s_cn (sb S) s) ≤ 0 from fun q => by have := (nI_leI (b := 0) (by omega) (by decide)).mp q; omega)]
        by_cases e1 : sb way (s_cn (sb S) s) = true
        · rw [if_neg (fun q => ((sb_0 (by omega) (by omega)).mp q) e1), nI_1, nI_1]
          refine wp_inl ?_
          rw [s_cn_s1 e, zb_0 (Or.inr e1)]
        · rw [if_pos ((sb_0 (by omega) (by omega)).mpr e1), nI_1, nI_1, nI_1]
          refine wp_inl ?_
          rw [s_cn_s1 e, zb_1 (by omega) e1]
    · rw [if_pos ((sb_0 (by omega) (by omega)).mpr e), nI_1]
      refine wp_inl ?_
      rw [s_cn_s0 e]
  · rw [hI]
    simp only
    unfold f_X11_layEnds_L8b oj_pf
    rw [h1, if_pos (Int32.le_refl _), o_bs, ← hbc]
    refine wp_map ?_
    have hs0 : oj_sm SE m (ej_w m 41 29 (nI (bc S))) := sm_w (Or.inl ⟨rfl, rfl⟩)
    have e29 : (ej_w m 41 29 (nI (bc S))).1 41 29 = nI (bc S) := w_same
    have e1 : (ej_w m 41 29 (nI (bc S))).1 41 1 = nI N := by rw [w_other (by omega)]; exact h1
    generalize ej_w m 41 29 (nI (bc S)) = m1 at hs0 e29 e1 ⊢
    unfold f_X11_layEnds_L73
    refine wp_loop (fun s (x : Int32 × Int32 × Int32 × Int32 × ej_M) => x.1 = nI (s_cn (sb S) s) ∧ x.2.1 = nI (zb way (bc S) - zb way (s_cn (sb S) s)) ∧ x.2.2.1 = nI (zb way (bc S) + ob way (s_cn (sb S) s)) ∧ x.2.2.2.1 = nI s ∧ oj_sm (fun a _ => a = 56) m1 x.2.2.2.2 ∧ (1 ≤ s_cn (sb S) s → ∀ p, zb way (bc S) - zb way (s_cn (sb S) s) ≤ p → p ≤ zb way (bc S) + ob way (s_cn (sb S) s) → x.2.2.2.2.1 56 p = nI (er (sst S) way (zb way (bc S)) (s_cn (sb S) s) p))) N (by unfold oj_FU; omega) (fun s x hs hI => ?_) (fun x hI => ?_) (i0 := 0) (by omega) ⟨rfl, rfl, rfl, rfl, sm_refl, fun h => absurd (show 1 ≤ 0 from h) (by decide)⟩
    · obtain ⟨a1, a2, a3, a4, m2⟩ := x
      obtain ⟨rfl, rfl, rfl, rfl, i1, i2⟩ := hI
      simp only at i1 i2 ⊢
      unfold f_X11_layEnds_L73b
      rw [i1.2 41 1 (by omega), e1, if_neg (fun q => by have := (nI_leI (by omega) (by omega)).mp q; omega)]
      by_cases e : sb S s = true
      · rw [if_neg (fun q => ((sb_0 (by omega) (by omega)).mp q) e)]
        have hc1 := s_cn_s1 (kp := sb S) e
        have hmo : s_cn (sb S) (s + 1) ≤ s_cn (sb S) N := s_cn_mono (by omega)
        rw [hc1, ← hbc] at hmo
        have hst : sst S (s_cn (sb S) s) = s := sst_at (by omega) e
        rw [hc1]
        generalize s_cn (sb S) s = c at hmo hst i2 hc1 ⊢
        have hm : zb way (c + 1) ≤ zb way (bc S) := s_cn_mono hmo
        have ho : ob way (c + 1) ≤ ob way (bc S) := s_cn_mono hmo
        by_cases e0 : c = 0
        · subst e0
          rw [if_pos (show nI 0 = 0 from rfl), oj_ar_st ar_56 (by omega), o_bs, nI_1, nI_1]
          refine wp_inl ⟨rfl, rfl, rfl, rfl, sm_trans i1 (sm_a fun j => rfl), fun _ p h1 h2 => ?_⟩
          rw [show zb way (0 + 1) = 0 from rfl, Nat.sub_zero] at h1
          rw [show ob way (0 + 1) = 0 from rfl, Nat.add_zero] at h2
          simp only
          rw [oj_row_s, show p = zb way (bc S) by omega]
          unfold upd er ep
          rw [if_pos rfl, if_pos rfl, if_pos rfl, hst]
        · rw [if_neg (show ¬ nI c = 0 from fun q => e0 ((nI_eq0 (by omega)).mp q))]
          by_cases e1 : sb way c = true
          · rw [ob_1 (by omega) e1] at ho
            rw [zb_0 (Or.inr e1)] at hm
            rw [if_pos ((sb_1 (by omega) (by omega)).mpr e1), nI_1, oj_ar_st ar_56 (by omega), o_bs, nI_1, nI_1]
            refine wp_inl ⟨rfl, by rw [zb_0 (Or.inr e1)], by rw [ob_1 (by omega) e1]; rfl, rfl, sm_trans i1 (sm_a fun j => rfl), fun _ p h1 h2 => ?_⟩
            rw [zb_0 (Or.inr e1)] at h1
            rw [ob_1 (by omega) e1] at h2
            simp only
            rw [oj_row_s]
            unfold upd er ep
            rw [if_neg e0, if_pos e1]
            by_cases e2 : p = zb way (bc S) + ob way c + 1
            · rw [if_pos e2, if_pos e2, hst]
            · rw [if_neg e2, if_neg e2]; exact i2 (by omega) p h1 (by omega)
          · rw [zb_1 (by omega) e1] at hm
            rw [if_neg (fun q => e1 ((sb_1 (by omega) (by omega)).mp q)), nI_am1 (by omega), oj_ar_st ar_56 (by omega), o_bs, nI_1, nI_1]
            refine wp_inl ⟨rfl, by rw [zb_1 (by omega) e1]; simp only; rw [Nat.sub_sub], by rw [ob_0 (Or.inr e1)], rfl, sm_trans i1 (sm_a fun j => rfl), fun _ p h1 h2 => ?_⟩
            rw [zb_1 (by omega) e1] at h1
            rw [ob_0 (Or.inr e1)] at h2
            simp only
            rw [oj_row_s]
            unfold upd er ep
            rw [if_neg e0, if_neg e1]
            by_cases e2 : p = zb way (bc S) - zb way c - 1
            · rw [if_pos e2, if_pos e2, hst]
            · rw [if_neg e2, if_neg e2]; exact i2 (by omega) p (by omega) h2
      · rw [if_pos ((sb_0 (by omega) (by omega)).mpr e), nI_1]
        have hc0 := s_cn_s0 (kp := sb S) e
        refine wp_inl ⟨by rw [hc0], by rw [hc0], by rw [hc0], rfl, i1, ?_⟩
        simp only
        rw [hc0]
        exact i2
    · obtain ⟨a1, a2, a3, a4, m2⟩ := x
      obtain ⟨rfl, rfl, rfl, rfl, i1, i2⟩ := hI
      simp only at i1 i2 ⊢
      unfold f_X11_layEnds_L73b
      rw [i1.2 41 1 (by omega), e1, if_pos (Int32.le_refl _)]
      rw [← hbc] at i2
      exact wp_inr ⟨sm_trans hs0 (sm_mono i1 fun a j q => by unfold SE; omega), (i1.2 41 29 (by omega)).trans e29, fun p hp => i2 hpos p (by omega) (by omega)⟩
theorem m_fway {P : Option (List (List Int32 × List Int32))} {w : Nat → Int32} {g : Int32} {S N : Nat} {m : ej_M} (hN : N ≤ 8) (hS : S < 2 ^ N) (hK : MK P w g N m) (h1 : m.1 41 1 = nI N) :
    oj_wp (f_X11_endsOf (nI S) m) fun q => FWr P w g S q.1 ∧ oj_sm SM m q.2 := by
  have h256 := pw_8 hN
  have hn := bc_le hN hS
  unfold f_X11_endsOf
  by_cases h0 : S = 0
  · rw [h0, if_pos (show nI 0 = 0 from rfl)]
    exact wp_some ⟨Or.inl ⟨rfl, rfl⟩, sm_refl⟩
  rw [if_neg (fun q => h0 ((nI_eq0 (by omega)).mp q))]
  have hpos := bc_pos S (by omega) h0
  have hdbl := pw_dbl hpos
  have hpc := pw_c S
  unfold f_X11_endsOf_L8
  refine wp_loop (fun t (s : Int32 × ej_M) => s.1 = nI (2 * t) ∧ oj_sm SM m s.2 ∧ ∀ t', t' < t → fwF P w g S t' = false) (2 ^ (bc S - 1)) (by unfold oj_FU; omega) (fun t s ht hI => ?_) (fun s hI => ?_) (i0 := 0) (by omega) ⟨rfl, sm_refl, fun t' h => absurd h (Nat.not_lt_zero _)⟩
  · obtain ⟨a, m2⟩ := s
    obtain ⟨rfl, j1, j4⟩ := hI
    simp only at j1 j4 ⊢
    unfold f_X11_endsOf_L8b
    rw [m_bits (by omega), o_bs]
    simp only
    rw [sl_pow _ (by omega), if_neg (fun q => by have := (nI_leI (by omega) (by omega)).mp q; omega)]
    refine wp_bind (wp_mono (m_lay hN hS hpos (show 2 * t < 2 ^ bc S by omega) ((j1.2 41 1 (by unfold SM; omega)).trans h1)) fun q hq => ?_)
    obtain ⟨q1, q2, q3⟩ := hq
    have hs2 := sm_trans j1 (sm_SE q1)
    have hzo := zo_sum (2 * t) (bc S - 1)
    rw [show bc S - 1 + 1 = bc S by omega] at hzo
    refine wp_bind (wp_mono (mk_all (ρ := er (sst S) (2 * t) (zb (2 * t) (bc S)) (bc S)) (MK_go hN hs2 hK) hN (by omega) q2 (fun p hp => ⟨q3 p hp, er_lt (fun j hj => sst_lt hN hS hj) (bc S) (Nat.le_refl _) hpos p (by omega) (by omega)⟩)) fun r hr => ?_)
    obtain ⟨r1, r2⟩ := hr
    have hs3 := sm_trans hs2 (sm_MC r2)
    by_cases hl : fwF P w g S t = true
    · unfold fwF at hl
      rw [r1, if_pos hl, if_neg i10]
      exact wp_inr ⟨Or.inr ⟨h0, Or.inl ⟨t, ht, hl, j4, rfl⟩⟩, hs3⟩
    · have hlf : fwF P w g S t = false := by simpa using hl
      unfold fwF at hl
      rw [r1, if_neg hl, if_pos rfl, show nI (2 * t) + 2 = nI (2 * (t + 1)) from nI_add (2 * t) 2]
      refine wp_inl ⟨rfl, hs3, fun t' ht' => ?_⟩
      by_cases e : t' = t
      · rw [e]; exact hlf
      · exact j4 t' (by omega)
  · obtain ⟨a, m2⟩ := s
    obtain ⟨rfl, j1, j4⟩ := hI
    simp only at j1 j4 ⊢
    unfold f_X11_endsOf_L8b
    rw [m_bits (by omega), o_bs]
    simp only
    rw [sl_pow _ (by omega), if_pos ((nI_leI (by omega) (by omega)).mpr (by omega))]
    exact wp_inr ⟨Or.inr ⟨h0, Or.inr ⟨j4, rfl⟩⟩, j1⟩
theorem OP_no1 {fx fm : ej_M → Option (Int32 × ej_M)} {v : Int32} (h : ∀ (L : Nat) (xs : Nat → Int32) (n k : Nat) (ρ : Nat → Nat) (P : Option (List (List Int32 × List Int32))) (nb : Nat) (m : ej_M), IV L xs n k ρ P nb m → (fx m = some (v, m) ∧ fm m = some (v, m)) ∨ ∀ b, CB P b m → b + oST < 2 ^ 28 → oj_wp (fx m) fun q => oj_sm SX m q.2 ∧ CB P (b + oST) q.2 ∧ ∀ m', IV L xs n k ρ P nb m' → oj_sm SX m m' → oj_wp (fm m') fun r => q.1 = r.1 ∧ oj_sm SM m' r.2) (hm : ∀ (L : Nat) (xs : Nat → Int32) (n k : Nat) (ρ : Nat → Nat) (P : Option (List (List Int32 × List Int32))) (nb : Nat) (m : ej_M), IV L xs n k ρ P nb m → fx m = some (v, m) → fm m = some (v, m) → True) : OP fx fm := by
  intro L xs b m ⟨n, k, ρ, P, nb, hI, hC⟩ hb
  rcases h L xs n k ρ P nb m hI with ⟨h1, h2⟩ | h1
  · exact wp_eq h1 ⟨⟨rfl, rfl⟩, wp_eq h2 ⟨rfl, n, k, ρ, P, nb, hI, CB_step hC⟩⟩
  · refine wp_mono (h1 b hC hb) fun q hq => ?_
    obtain ⟨q1, q2, q3⟩ := hq
    have hI' := IV_sm (sm_mono q1 fun a j x => Or.inl x) hI
    refine ⟨⟨funext fun j => q1.2 4000 j (by unfold SX; omega), funext fun j => q1.2 4001 j (by unfold SX; omega)⟩, wp_mono (q3 q.2 hI' q1) fun r hr => ?_⟩
    exact ⟨hr.1, n, k, ρ, P, nb, IV_sm (sm_mono hr.2 fun a j x => Or.inr x) hI', CB_SM hr.2 q2⟩
theorem op_ends (v : Int32) : OP (f_X10_ends v) (f_X11_ends v) := by
  refine OP_no1 (v := -1) (fun L xs n k ρ P nb m hI => ?_) (fun _ _ _ _ _ _ _ _ _ _ _ => trivial)
  obtain ⟨h1, h2, h3, h4, h5, h6, h7, h8, h9, h10, h11, h12, h13, h14, h15⟩ := id hI.1
  have h256 := pw_8 h1
  rcases r_cases v (2 ^ n) with ⟨S, hS, rfl⟩ | hN
  · by_cases h0 : S = 0
    · left
      subst h0
      unfold f_X10_ends f_X11_ends
      rw [x_setY h3 h1 hS, o_bs, if_neg i10, if_pos (show nI 0 = 0 from rfl), m_setY h4 h1 hS, o_bs, if_neg i10, if_pos (show nI 0 ≤ 0 by decide)]
      exact ⟨rfl, rfl⟩
    · right
      intro b hC hb
      unfold f_X10_ends
      rw [x_setY h3 h1 hS, o_bs, if_neg i10, if_neg (fun q => h0 ((nI_eq0 (by omega)).mp q))]
      refine wp_bind (wp_mono (x_fway h1 hS (IV_XK hI) (by unfold oST at hb; omega) hC) fun q hq => wp_some ⟨hq.2.1, CB_le hq.2.2 (by unfold oST; omega), fun m' hI' hs => ?_⟩)
      unfold f_X11_ends
      rw [m_setY hI'.1.2.2.2.1 h1 hS, o_bs, if_neg i10, if_neg (show ¬ nI S ≤ 0 from fun q => by have := (nI_leI (b := 0) (by omega) (by decide)).mp q; omega)]
      refine wp_bind (wp_mono (m_fway h1 hS (IV_MK hI' hs) hI'.1.2.2.2.1) fun r hr => wp_some ⟨FWr_eq hq.1 hr.1, hr.2⟩)
  · left
    unfold f_X10_ends f_X11_ends
    rw [x_setN h3 h1 hN, o_bs, if_pos rfl, m_setN h4 h1 hN, o_bs, if_pos rfl]
    exact ⟨rfl, rfl⟩
-- aside
def rt (s v : Nat) : Nat := s &&& (nI v ^^^ (-1)).toBitVec.toNat
theorem rt_eq (s v : Nat) : nI s &&& (nI v ^^^ (-1)) = nI (rt s v) := by
  unfold rt
  rw [← nb_and]
  congr 1
  apply Int32.toBitVec_inj.1
  show (nI v ^^^ (-1)).toBitVec = BitVec.ofNat 32 (nI v ^^^ (-1)).toBitVec.toNat
  rw [BitVec.ofNat_toNat, BitVec.setWidth_eq]
theorem rt_le (s v : Nat) : rt s v ≤ s := Nat.and_le_left
def gd (P : Option (List (List Int32 × List Int32))) (w : Nat → Int32) (g : Int32) (s v : Nat) : Prop := nI v &&& (nI s ^^^ (-1)) = 0 ∧ ∀ r, FWr P w g (rt s v) r → r ≠ -2
def AFr (G : Nat → Prop) (s r : Nat) : Prop := (r = s ∧ ∀ v, v < s → G v → bc s ≤ bc v) ∨ (r < s ∧ G r ∧ bc r < bc s ∧ ∀ v, v < s → G v → bc r < bc v ∨ (bc r = bc v ∧ r ≤ v))
theorem AFr_eq {G : Nat → Prop} {s r r' : Nat} (h : AFr G s r) (h' : AFr G s r') : r = r' := by
  rcases h with ⟨a1, a2⟩ | ⟨a1, a2, a3, a4⟩
  · rcases h' with ⟨b1, b2⟩ | ⟨b1, b2, b3, b4⟩
    · rw [a1, b1]
    · have := a2 r' b1 b2; omega
  · rcases h' with ⟨b1, b2⟩ | ⟨b1, b2, b3, b4⟩
    · have := b2 r a1 a2; omega
    · have := a4 r' b1 b2
      have := b4 r a1 a2
      omega
theorem x_aside {P : Option (List (List Int32 × List Int32))} {w : Nat → Int32} {g : Int32} {S N b : Nat} {m : ej_M} (hN : N ≤ 8) (hS : S < 2 ^ N) (hK : XK P w g m) (hb : b + 5000 < 2 ^ 28) (hC : CB P b m) :
    oj_wp (f_X7_fewestAside (nI S) m) fun q => (∃ r, AFr (gd P w g S) S r ∧ q.1 = nI r) ∧ oj_sm SX m q.2 ∧ CB P (b + 4000) q.2 := by
  have h256 := pw_8 hN
  have h8 := bc_8 S
  unfold f_X7_fewestAside
  rw [x_bits (by omega), o_bs]
  simp only
  unfold f_X7_fewestAside_L7
  refine wp_loop (fun n (s : Int32 × ej_M) => s.1 = nI n ∧ oj_sm SX m s.2 ∧ CB P (b + 257 * n) s.2 ∧ ∀ v, v < S → gd P w g S v → n ≤ bc v) (bc S) (by unfold oj_FU; omega) (fun n s hn hI => ?_) (fun s hI => ?_) (i0 := 0) (by omega) ⟨rfl, sm_refl, hC, fun v _ _ => Nat.zero_le _⟩
  · obtain ⟨a, m1⟩ := s
    obtain ⟨rfl, i1, i2, i3⟩ := hI
    simp only at i1 i2 i3 ⊢
    unfold f_X7_fewestAside_L7b
    rw [if_neg (fun q => by have := (nI_leI (by omega) (by omega)).mp q; omega)]
    unfold f_X7_fewestAside_L15
    refine wp_loop (fun v (s : Int32 × ej_M) => s.1 = nI v ∧ oj_sm SX m s.2 ∧ CB P (b + 257 * n + v) s.2 ∧ ∀ v', v' < v → gd P w g S v' → bc v' ≠ n) S (by unfold oj_FU; omega) (fun v s hv hI => ?_) (fun s hI => ?_) (i0 := 0) (by omega) ⟨rfl, i1, i2, fun v' h => absurd h (Nat.not_lt_zero _)⟩
    · obtain ⟨a, m2⟩ := s
      obtain ⟨rfl, j1, j2, j3⟩ := hI
      simp only at j1 j2 j3 ⊢
      have next : ∀ m3 : ej_M, oj_sm SX m m3 → CB P (b + 257 * n + (v + 1)) m3 → ¬ (gd P w g S v ∧ bc v = n) → oj_wp (some (Sum.inl (nI v + 1, m3) : (Int32 × ej_M) ⊕ ((Int32 × ej_M) ⊕ (Int32 × ej_M)))) (oj_k (fun s => s.1 = nI (v + 1) ∧ oj_sm SX m s.2 ∧ CB P (b + 257 * n + (v + 1)) s.2 ∧ ∀ v', v' < v + 1 → gd P w g S v' → bc v' ≠ n) (oj_k (fun s => s.1 = nI (n + 1) ∧ oj_sm SX m s.2 ∧ CB P (b + 257 * (n + 1)) s.2 ∧ ∀ v, v < S → gd P w g S v → n + 1 ≤ bc v) fun q => (∃ r, AFr (gd P w g S) S r ∧ q.1 = nI r) ∧ oj_sm SX m q.2 ∧ CB P (b + 4000) q.2)) := fun m3 a1 a2 a3 => by
        refine wp_inl ⟨nI_1 v, a1, a2, fun v' h1 h2 h3 => ?_⟩
        by_cases e : v' = v
        · rw [e] at h2 h3; exact a3 ⟨h2, h3⟩
        · exact j3 v' (by omega) h2 h3
      unfold f_X7_fewestAside_L15b
      rw [if_neg (fun q => by have := (nI_leI (by omega) (by omega)).mp q; omega)]
      by_cases e1 : nI v &&& (nI S ^^^ (-1)) = 0
      · rw [if_pos e1, x_bits (by omega), o_bs]
        by_cases e2 : bc v = n
        · rw [if_pos (by rw [e2]), rt_eq]
          simp only
          refine wp_bind (wp_mono (x_fway (S := rt S v) (b := b + 257 * n + v) hN (by have := rt_le S v; omega) (XK_go j1 hK) (by omega) j2) fun q hq => ?_)
          obtain ⟨q1, q2, q3⟩ := hq
          by_cases e3 : q.1 = -2
          · rw [if_pos e3]
            exact next q.2 (sm_trans j1 q2) q3 (fun h => h.1.2 _ q1 e3)
          · rw [if_neg e3]
            refine wp_inr ⟨⟨v, Or.inr ⟨hv, ⟨e1, fun r hr e => e3 ((FWr_eq q1 hr).trans e)⟩, by omega, fun v' h1 h2 => ?_⟩, rfl⟩, sm_trans j1 q2, CB_le q3 (by omega)⟩
            have := i3 v' h1 h2
            by_cases e4 : bc v' = n
            · refine Or.inr ⟨by omega, ?_⟩
              by_cases e5 : v ≤ v'
              · exact e5
              · exact absurd e4 (j3 v' (by omega) h2)
            · left; omega
        · rw [if_neg (fun q => e2 (nI_inj (by have := bc_8 v; omega) (by omega) q))]
          exact next m2 j1 (CB_le j2 (by omega)) (fun h => e2 h.2)
      · rw [if_neg e1]
        exact next m2 j1 (CB_le j2 (by omega)) (fun h => e1 h.1.1)
    · obtain ⟨a, m2⟩ := s
      obtain ⟨rfl, j1, j2, j3⟩ := hI
      simp only at j1 j2 j3 ⊢
      unfold f_X7_fewestAside_L15b
      rw [if_pos (Int32.le_refl _), nI_1]
      refine wp_inr ⟨rfl, j1, CB_le j2 (by omega), fun v h1 h2 => ?_⟩
      have := i3 v h1 h2
      have := j3 v h1 h2
      omega
  · obtain ⟨a, m1⟩ := s
    obtain ⟨rfl, i1, i2, i3⟩ := hI
    simp only at i1 i2 i3 ⊢
    unfold f_X7_fewestAside_L7b
    rw [if_pos (Int32.le_refl _)]
    exact wp_inr ⟨⟨S, Or.inl ⟨rfl, i3⟩, rfl⟩, i1, CB_le i2 (by omega)⟩
theorem m_aside {P : Option (List (List Int32 × List Int32))} {w : Nat → Int32} {g : Int32} {S N : Nat} {m : ej_M} (hN : N ≤ 8) (hS : S < 2 ^ N) (hK : MK P w g N m) (h1 : m.1 41 1 = nI N) :
    oj_wp (f_X11_aside_L18 (nI S) (nI S) 0 m) fun q => (∃ r, AFr (gd P w g S) S r ∧ q.1 = nI r) ∧ oj_sm SM m q.2 := by
  have h256 := pw_8 hN
  unfold f_X11_aside_L18
  refine wp_loop (fun v (s : Int32 × Int32 × ej_M) => s.2.1 = nI v ∧ oj_sm SM m s.2.2 ∧ ∃ r, s.1 = nI r ∧ ((r = S ∧ ∀ v', v' < v → gd P w g S v' → bc S ≤ bc v') ∨ (r < v ∧ gd P w g S r ∧ bc r < bc S ∧ ∀ v', v' < v → gd P w g S v' → bc r < bc v' ∨ (bc r = bc v' ∧ r ≤ v')))) S (by unfold oj_FU; omega) (fun v s hv hI => ?_) (fun s hI => ?_) (i0 := 0) (by omega) ⟨rfl, sm_refl, S, rfl, Or.inl ⟨rfl, fun v' h => absurd h (Nat.not_lt_zero _)⟩⟩
  · obtain ⟨a, a', m2⟩ := s
    obtain ⟨rfl, j1, r, j2, j3⟩ := hI
    simp only at j1 j2 j3 ⊢
    have hr8 : r ≤ S := by rcases j3 with ⟨e, _⟩ | ⟨e, _⟩ <;> omega
    have b1 := bc_8 v
    have b2 := bc_8 r
    -- v isn't better
    have next : ∀ m3 : ej_M, oj_sm SM m m3 → (gd P w g S v → bc r ≤ bc v) → oj_wp (some (Sum.inl (a, nI v + 1, m3) : (Int32 × Int32 × ej_M) ⊕ (Int32 × ej_M))) (oj_k (fun s => s.2.1 = nI (v + 1) ∧ oj_sm SM m s.2.2 ∧ ∃ r, s.1 = nI r ∧ ((r = S ∧ ∀ v', v' < v + 1 → gd P w g S v' → bc S ≤ bc v') ∨ (r < v + 1 ∧ gd P w g S r ∧ bc r < bc S ∧ ∀ v', v' < v + 1 → gd P w g S v' → bc r < bc v' ∨ (bc r = bc v' ∧ r ≤ v')))) fun q => (∃ r, AFr (gd P w g S) S r ∧ q.1 = nI r) ∧ oj_sm SM m q.2) := fun m3 a1 a2 => by
      refine wp_inl ⟨nI_1 v, a1, r, j2, ?_⟩
      rcases j3 with ⟨e, k1⟩ | ⟨e, k1, k2, k3⟩
      · refine Or.inl ⟨e, fun v' h1 h2 => ?_⟩
        by_cases e2 : v' = v
        · rw [e2] at h2 ⊢; rw [← e]; exact a2 h2
        · exact k1 v' (by omega) h2
      · refine Or.inr ⟨by omega, k1, k2, fun v' h1 h2 => ?_⟩
        by_cases e2 : v' = v
        · rw [e2] at h2 ⊢
          have := a2 h2
          omega
        · exact k3 v' (by omega) h2
    unfold f_X11_aside_L18b
    rw [if_neg (fun q => by have := (nI_leI (by omega) (by omega)).mp q; omega)]
    by_cases e1 : nI v &&& (nI S ^^^ (-1)) = 0
    · rw [if_pos e1, m_bits (by omega), o_bs]
      simp only
      rw [show f_X11_bitsOf a m2 = some (nI (bc r), m2) by rw [j2]; exact m_bits (by omega) m2, o_bs]
      by_cases e2 : bc r ≤ bc v
      · rw [if_pos ((nI_leI (by omega) (by omega)).mpr e2)]
        exact next m2 j1 (fun _ => e2)
      · rw [if_neg (fun q => e2 ((nI_leI (by omega) (by omega)).mp q)), rt_eq]
        simp only
        refine wp_bind (wp_mono (m_fway (S := rt S v) hN (by have := rt_le S v; omega) (MK_go hN j1 hK) ((j1.2 41 1 (by unfold SM; omega)).trans h1)) fun q hq => ?_)
        obtain ⟨q1, q2⟩ := hq
        by_cases e3 : q.1 < 0
        · rw [if_pos e3]
          exact next q.2 (sm_trans j1 q2) (fun h => absurd ((FWr_neg q1).mp e3) (h.2 _ q1))
        · rw [if_neg e3, nI_1]
          have hg : gd P w g S v := ⟨e1, fun r hr e => e3 (by rw [FWr_eq q1 hr]; exact (FWr_neg hr).mpr e)⟩
          refine wp_inl ⟨rfl, sm_trans j1 q2, v, rfl, Or.inr ⟨by omega, hg, ?_, fun v' h1 h2 => ?_⟩⟩
          · rcases j3 with ⟨e, _⟩ | ⟨e, _, k2, _⟩
            · rw [← e]; omega
            · omega
          · by_cases e4 : v' = v
            · rw [e4]; exact Or.inr ⟨rfl, Nat.le_refl _⟩
            · rcases j3 with ⟨e, k1⟩ | ⟨e, k1, k2, k3⟩
              · have := k1 v' (by omega) h2
                rw [← e] at this
                omega
              · have := k3 v' (by omega) h2
                omega
    · rw [if_neg e1]
      exact next m2 j1 (fun h => absurd h.1 e1)
  · obtain ⟨a, a', m2⟩ := s
    obtain ⟨rfl, j1, r, j2, j3⟩ := hI
    simp only at j1 j2 j3 ⊢
    unfold f_X11_aside_L18b
    rw [if_pos (Int32.le_refl _)]
    exact wp_inr ⟨⟨r, j3, j2⟩, j1⟩
theorem op_aside (v : Int32) : OP (f_X10_aside v) (f_X11_aside v) := by
  refine OP_no1 (v := -1) (fun L xs n k ρ P nb m hI => ?_) (fun _ _ _ _ _ _ _ _ _ _ _ => trivial)
  obtain ⟨h1, h2, h3, h4, h5, h6, h7, h8, h9, h10, h11, h12, h13, h14, h15⟩ := id hI.1
  have h256 := pw_8 h1
  rcases r_cases v (2 ^ n) with ⟨S, hS, rfl⟩ | hN
  · by_cases h0 : S = 0
    · left
      subst h0
      unfold f_X10_aside f_X11_aside
      rw [x_setY h3 h1 hS, o_bs, if_neg i10, if_pos (show nI 0 = 0 from rfl), m_setY h4 h1 hS, o_bs, if_neg i10, if_pos (show nI 0 = 0 from rfl)]
      exact ⟨rfl, rfl⟩
    · right
      intro b hC hb
      have hz : ¬ nI S = 0 := fun q => h0 ((nI_eq0 (by omega)).mp q)
      unfold f_X10_aside
      rw [x_setY h3 h1 hS, o_bs, if_neg i10, if_neg hz]
      refine wp_bind (wp_mono (x_aside h1 hS (IV_XK hI) (by unfold oST at hb; omega) hC) fun q hq => wp_some ⟨hq.2.1, CB_le hq.2.2 (by unfold oST; omega), fun m' hI' hs => ?_⟩)
      unfold f_X11_aside
      rw [m_setY hI'.1.2.2.2.1 h1 hS, o_bs, if_neg i10, if_neg hz]
      refine wp_mono (m_aside h1 hS (IV_MK hI' hs) hI'.1.2.2.2.1) fun r hr => ⟨?_, hr.2⟩
      obtain ⟨⟨z, z1, z2⟩, _⟩ := hq
      obtain ⟨⟨y, y1, y2⟩, _⟩ := hr
      simp only
      rw [z2, y2, AFr_eq z1 y1]
  · left
    unfold f_X10_aside f_X11_aside
    rw [x_setN h3 h1 hN, o_bs, if_pos rfl, m_setN h4 h1 hN, o_bs, if_pos rfl]
    exact ⟨rfl, rfl⟩
