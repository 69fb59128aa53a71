/-! rows, worth, book: the reference, the calls -/
def SOm (a j : Nat) : Prop := MC a j ∨ a = 56 ∨ a = 57 ∨ (a = 41 ∧ j = 31)
def OM (n : Nat) (x : Nat × (Nat → Nat)) (m : ej_M) : Prop := m.1 41 31 = nI x.1 ∧ (1 ≤ x.1 → ∀ q, q < n → m.1 57 q = nI (x.2 q))
theorem SOm_SM {a j : Nat} (h : SOm a j) : SM a j := by unfold SOm MC at h; unfold SM; omega
theorem g_go (n : Nat) (v1 : Int32) (m : ej_M) : g_X11_goOrders (n + 1) v1 m = f_X11_goOrders_e (g_X11_goOrders n) v1 m := rfl
theorem m_go {P : Option (List (List Int32 × List Int32))} {w : Nat → Int32} {g : Int32} {n N : Nat} {F : Nat → Nat → Bool} {m0 : ej_M} (hN : N ≤ 8) (hn8 : n ≤ 8) (hF : ∀ m', oj_sm SOm m0 m' → ∀ p s, p < n → s < N → f_X11_fitsBook (nI p) (nI s) m' = some (if F p s = true then 1 else 0, m')) :
    ∀ (f S K : Nat) (r : Nat → Nat) (x : Nat × (Nat → Nat)) (m : ej_M), bc S = f → S < 2 ^ N → f ≤ n → oj_sm SOm m0 m → MK P w g N m → m.1 41 1 = nI N → m.1 41 29 = nI n → (∀ q, q < n - f → m.1 56 q = nI (r q) ∧ r q < N) → OM n x m → x.1 + 8 ^ f < 2 ^ 30 →
    oj_wp (g_X11_goOrders (f + K + 1) (nI S) m) fun q => OM n ((ls F (LWf P w g n) f (n - f) S r).foldl (st1 false) x) q.2 ∧ oj_sm SOm m q.2 ∧ ∀ q', q' < n - f → q.2.1 56 q' = m.1 56 q' := by
  have h256 := pw_8 hN
  intro f
  induction f with
  | zero =>
    intro S K r x m hS hS2 hfn hm0 hK h1 h29 hr hO hx
    have hS0 : S = 0 := by
      by_cases e : S = 0
      · exact e
      · have := bc_pos S (by omega) e; omega
    subst hS0
    rw [Nat.sub_zero] at hr ⊢
    rw [g_go]
    unfold f_X11_goOrders_e
    rw [if_pos (show nI 0 = 0 from rfl)]
    refine wp_bind (wp_mono (mk_all (ρ := r) hK hN (by omega) h29 hr) fun q hq => ?_)
    obtain ⟨q1, q2⟩ := hq
    have e31 : q.2.1 41 31 = nI x.1 := (q2.2 41 31 (by unfold MC; omega)).trans hO.1
    unfold ls
    by_cases hl : LWf P w g n r = true
    · rw [q1, if_pos hl, if_neg i10, if_pos hl, List.foldl_cons, List.foldl_nil, e31]
      have es : st1 false x r = (x.1 + 1, if x.1 = 0 then r else x.2) := by
        unfold st1
        rw [if_neg (fun q => by cases q.1)]
      rw [es]
      have tail : ∀ m2 : ej_M, oj_sm (fun a _ => a = 57) q.2 m2 → (∀ q', q' < n → m2.1 57 q' = nI ((if x.1 = 0 then r else x.2) q')) → oj_wp (f_X11_goOrders_B47 (g_X11_goOrders (0 + K)) m2) fun q => OM n (x.1 + 1, if x.1 = 0 then r else x.2) q.2 ∧ oj_sm SOm m q.2 ∧ ∀ q', q' < n → q.2.1 56 q' = m.1 56 q' := fun m2 hs2 hf => by
        unfold f_X11_goOrders_B47 oj_pf
        rw [o_bs, hs2.2 41 31 (by omega), e31, nI_1]
        refine wp_some ⟨⟨w_same, fun _ q' hq' => ?_⟩, sm_trans (sm_mono q2 fun a j q => Or.inl q) (sm_trans (sm_mono hs2 fun a j q => by unfold SOm; omega) (sm_w (by unfold SOm; omega))), fun q' _ => ?_⟩
        · simp only; rw [w_place (by decide)]; exact hf q' hq'
        · simp only; rw [w_place (by decide), hs2.2 56 q' (by omega), q2.2 56 q' (by unfold MC; omega)]
      by_cases e0 : x.1 = 0
      · rw [if_pos (by rw [e0]; rfl)]
        unfold f_X11_goOrders_L21
        refine wp_loop (fun i (z : Int32 × ej_M) => z.1 = nI i ∧ oj_sm (fun a _ => a = 57) q.2 z.2 ∧ ∀ q', q' < i → z.2.1 57 q' = nI (r q')) n (by unfold oj_FU; omega) (fun i z hi hI => ?_) (fun z hI => ?_) (i0 := 0) (by omega) ⟨rfl, sm_refl, fun q' h => absurd h (Nat.not_lt_zero _)⟩
        · obtain ⟨a, m1⟩ := z
          obtain ⟨rfl, i1, i2⟩ := hI
          simp only at i1 i2 ⊢
          unfold f_X11_goOrders_L21b
          rw [i1.2 41 29 (by omega), q2.2 41 29 (by unfold MC; omega), h29, if_neg (fun q => by have := (nI_leI (by omega) (by omega)).mp q; omega), oj_ar_ld ar_56 (by omega), o_bs, i1.2 56 i (by omega), q2.2 56 i (by unfold MC; omega), (hr i hi).1, oj_ar_st ar_57 (by omega), o_bs, nI_1]
          refine wp_inl ⟨rfl, sm_trans i1 (sm_a fun j => rfl), fun q' hq' => ?_⟩
          simp only
          rw [oj_row_s]
          unfold upd
          by_cases e : q' = i
          · rw [if_pos e, e]
          · rw [if_neg e]; exact i2 q' (by omega)
        · obtain ⟨a, m1⟩ := z
          obtain ⟨rfl, i1, i2⟩ := hI
          simp only at i1 i2 ⊢
          unfold f_X11_goOrders_L21b
          rw [i1.2 41 29 (by omega), q2.2 41 29 (by unfold MC; omega), h29, if_pos (Int32.le_refl _)]
          refine wp_map (tail m1 i1 fun q' hq' => ?_)
          rw [if_pos e0]; exact i2 q' hq'
      · rw [if_neg (fun q => e0 ((nI_eq0 (by omega)).mp q))]
        refine tail q.2 sm_refl fun q' hq' => ?_
        rw [if_neg e0, q2.2 57 q' (by unfold MC; omega)]
        exact hO.2 (by omega) q' hq'
    · rw [q1, if_neg hl, if_pos rfl, if_neg hl, List.foldl_nil]
      exact wp_some ⟨⟨e31, fun h q' hq' => (q2.2 57 q' (by unfold MC; omega)).trans (hO.2 h q' hq')⟩, sm_mono q2 fun a j q => Or.inl q, fun q' _ => q2.2 56 q' (by unfold MC; omega)⟩
  | succ f ih =>
    intro S K r x m hS hS2 hfn hm0 hK h1 h29 hr hO hx
    have h8f : 8 ^ (f + 1) = 8 * 8 ^ f := by rw [Nat.pow_succ, Nat.mul_comm]
    have hp8 : 0 < 8 ^ f := Nat.pow_pos (by decide)
    have hSn : S ≠ 0 := fun e => by rw [e] at hS; exact absurd (show (0 : Nat) = f + 1 from hS) (by omega)
    rw [show f + 1 + K + 1 = (f + K + 1) + 1 by omega, g_go]
    unfold f_X11_goOrders_e
    rw [if_neg (fun q => hSn ((nI_eq0 (by omega)).mp q)), m_bits (by omega), o_bs]
    simp only
    rw [h29, hS, nI_sub hfn]
    obtain ⟨p, hp⟩ : ∃ p, n - (f + 1) = p := ⟨_, rfl⟩
    have hpf : n - f = p + 1 := by omega
    rw [hp] at hr ⊢
    have hstop : (List.range 8).flatMap (lsG F (LWf P w g n) f p S r) = (List.range N).flatMap (lsG F (LWf P w g n) f p S r) := flat_stop 8 hN fun s h1 h2 => by
      unfold lsG
      rw [sb_above hS2 s h1 h2, Bool.false_and]
      rfl
    unfold f_X11_goOrders_L70
    refine wp_loop (fun s (z : Int32 × ej_M) => z.1 = nI s ∧ OM n (((List.range s).flatMap (lsG F (LWf P w g n) f p S r)).foldl (st1 false) x) z.2 ∧ oj_sm SOm m z.2 ∧ ∀ q', q' < p → z.2.1 56 q' = m.1 56 q') N (by unfold oj_FU; omega) (fun s z hs hI => ?_) (fun z hI => ?_) (i0 := 0) (by omega) ⟨rfl, hO, sm_refl, fun _ _ => rfl⟩
    · obtain ⟨a, m1⟩ := z
      obtain ⟨rfl, i1, i2, i4⟩ := hI
      simp only at i1 i2 i4 ⊢
      have hc1 := st1_le (one := false) ((List.range s).flatMap (lsG F (LWf P w g n) f p S r)) x
      have hlen := flat_len (G := lsG F (LWf P w g n) f p S r) (B := 8 ^ f) (fun s => by
        unfold lsG
        split
        · exact ls_len _ _ _ _
        · simp) s
      have hs8 : s * 8 ^ f + 8 ^ f ≤ 8 * 8 ^ f := by
        have := Nat.mul_le_mul_right (8 ^ f) (show s + 1 ≤ 8 by omega)
        rw [Nat.succ_mul] at this
        exact this
      generalize hxs : ((List.range s).flatMap (lsG F (LWf P w g n) f p S r)).foldl (st1 false) x = xs at i1 hc1
      have hxb : xs.1 + 8 ^ f < 2 ^ 30 := by omega
      have next : ∀ (m2 : ej_M), lsG F (LWf P w g n) f p S r s = [] → OM n xs m2 → oj_sm SOm m m2 → (∀ q', q' < p → m2.1 56 q' = m.1 56 q') → oj_wp (some (Sum.inl (nI s + 1, m2) : (Int32 × ej_M) ⊕ (Unit × ej_M))) (oj_k (fun z => z.1 = nI (s + 1) ∧ OM n (((List.range (s + 1)).flatMap (lsG F (LWf P w g n) f p S r)).foldl (st1 false) x) z.2 ∧ oj_sm SOm m z.2 ∧ ∀ q', q' < p → z.2.1 56 q' = m.1 56 q') fun q => OM n ((ls F (LWf P w g n) (f + 1) p S r).foldl (st1 false) x) q.2 ∧ oj_sm SOm m q.2 ∧ ∀ q', q' < p → q.2.1 56 q' = m.1 56 q') := fun m2 a1 a2 a3 a5 => by
        refine wp_inl ⟨nI_1 s, ?_, a3, a5⟩
        rw [flat_succ, List.foldl_append, hxs, a1, List.foldl_nil]
        exact a2
      unfold f_X11_goOrders_L70b
      rw [i2.2 41 1 (by unfold SOm MC; omega), h1, if_neg (fun q => by have := (nI_leI (by omega) (by omega)).mp q; omega)]
      by_cases es : sb S s = true
      · rw [if_neg (fun q => ((sb_0 (by omega) (by omega)).mp q) es), hF m1 (sm_trans hm0 i2) p s (by omega) hs, o_bs]
        by_cases hFs : F p s = true
        · have hG : lsG F (LWf P w g n) f p S r s = ls F (LWf P w g n) f (p + 1) (S - 2 ^ s) (upN r p s) := by unfold lsG; rw [es, hFs]; rfl
          rw [if_pos hFs, if_neg i10]
          simp only
          rw [oj_ar_st ar_56 (by omega), o_bs]
          have hs2 : oj_sm (fun a _ => a = 56) m1 (oj_row m1 56 (upd (m1.1 56) p (nI s))) := sm_a fun j => rfl
          have e56 : ∀ q, q < p + 1 → (oj_row m1 56 (upd (m1.1 56) p (nI s))).1 56 q = nI (upN r p s q) ∧ upN r p s q < N := fun q hq => by
            rw [oj_row_s]
            unfold upd upN
            by_cases e : q = p
            · rw [if_pos e, if_pos e]; exact ⟨rfl, hs⟩
            · rw [if_neg e, if_neg e, i4 q (by omega)]; exact hr q (by omega)
          have e56o : ∀ q, q < p → (oj_row m1 56 (upd (m1.1 56) p (nI s))).1 56 q = m.1 56 q := fun q hq => by
            rw [oj_row_s]
            unfold upd
            rw [if_neg (by omega)]; exact i4 q hq
          have hsS : oj_sm SOm m (oj_row m1 56 (upd (m1.1 56) p (nI s))) := sm_trans i2 (sm_mono hs2 fun a j q => by unfold SOm; omega)
          have hO2 : OM n xs (oj_row m1 56 (upd (m1.1 56) p (nI s))) := ⟨(hs2.2 41 31 (by omega)).trans i1.1, fun h q hq => (hs2.2 57 q (by omega)).trans (i1.2 h q hq)⟩
          generalize oj_row m1 56 (upd (m1.1 56) p (nI s)) = m2 at hs2 e56 e56o hsS hO2 ⊢
          obtain ⟨d1, d2⟩ := and_dec S (by omega) s (by omega) es
          have := bc_sub S (by omega) s (by omega) es
          rw [d1]
          have hih := ih (S - 2 ^ s) K (upN r p s) xs m2 (by omega) (by omega) (by omega) (sm_trans hm0 hsS) (MK_go hN (sm_mono hsS fun _ _ => SOm_SM) hK) ((hsS.2 41 1 (by unfold SOm MC; omega)).trans h1) ((hsS.2 41 29 (by unfold SOm MC; omega)).trans h29)
          rw [hpf] at hih
          refine wp_bind (wp_mono (hih e56 hO2 hxb) fun q hq => ?_)
          obtain ⟨q1, q2, q4⟩ := hq
          rw [nI_1]
          refine wp_inl ⟨rfl, ?_, sm_trans hsS q2, fun q' hq' => ?_⟩
          · rw [flat_succ, List.foldl_append, hxs, hG]
            exact q1
          · simp only
            rw [q4 q' (by omega)]
            exact e56o q' hq'
        · rw [if_neg hFs, if_pos rfl]
          refine next m1 ?_ i1 i2 i4
          unfold lsG
          have hFf : F p s = false := by simpa using hFs
          rw [hFf, Bool.and_false]
          rfl
      · rw [if_pos ((sb_0 (by omega) (by omega)).mpr es)]
        refine next m1 ?_ i1 i2 i4
        unfold lsG
        have esf : sb S s = false := by simpa using es
        rw [esf, Bool.false_and]
        rfl
    · obtain ⟨a, m1⟩ := z
      obtain ⟨rfl, i1, i2, i4⟩ := hI
      simp only at i1 i2 i4 ⊢
      unfold f_X11_goOrders_L70b
      rw [i2.2 41 1 (by unfold SOm MC; omega), h1, if_pos (Int32.le_refl _)]
      refine wp_inr ⟨?_, i2, i4⟩
      rw [ls_s, hstop]
      exact i1
-- what comes of all orders
def oS (P : Option (List (List Int32 × List Int32))) (w : Nat → Int32) (g : Int32) (F : Nat → Nat → Bool) (one : Bool) (S : Nat) : Nat × (Nat → Nat) := (ls F (LWf P w g (bc S)) (bc S) 0 S (fun _ => 0)).foldl (st1 one) (0, fun _ => 0)
theorem pw8_b {n : Nat} (h : n ≤ 8) : 8 ^ n ≤ 16777216 := Nat.le_trans (Nat.pow_le_pow_right (by decide) h) (by decide)
theorem oS_b {P : Option (List (List Int32 × List Int32))} {w : Nat → Int32} {g : Int32} {F : Nat → Nat → Bool} {one : Bool} {S : Nat} : (oS P w g F one S).1 ≤ 16777216 := by
  unfold oS
  refine Nat.le_trans (st1_le _ _) ?_
  have := ls_len (F := F) (LW := LWf P w g (bc S)) (bc S) 0 S (fun _ => 0)
  have := pw8_b (bc_8 S)
  simp only
  omega
/-- the class's answer: how many (none), or the one at a place of the first -/
def oA (P : Option (List (List Int32 × List Int32))) (w : Nat → Int32) (g : Int32) (F : Nat → Nat → Bool) (S : Nat) (t : Option Nat) : Int32 := match t with
  | none => nI (oS P w g F false S).1
  | some p => if (oS P w g F false S).1 = 0 then -2 else nI ((oS P w g F false S).2 p)
def oT (t : Option Nat) : Int32 := match t with
  | none => -1
  | some p => nI p
def SOa (a j : Nat) : Prop := SOx a j ∨ a = 18
theorem x_answer {P : Option (List (List Int32 × List Int32))} {w : Nat → Int32} {g : Int32} {S b : Nat} {F : Nat → Nat → Bool} {fv : Nat → Int32} {t : Option Nat} {m : ej_M} (hS : S < 256) (hb : b + 1 < 2 ^ 28) (hg : g = 0 ∨ g = 1) (hF : ∀ p s, p < bc S → s < 8 → (F p s = true ↔ (fv p = -1 ∨ fv p = nI s))) (hK : XK P w g m) (hC : CB P b m) (h19 : ∀ q, q < 8 → m.1 19 q = fv q) (ht : ∀ p, t = some p → p < bc S) :
    oj_wp (f_X3_answer (nI S) (oT t) m) fun q => q.1 = oA P w g F S t ∧ oj_sm SOa m q.2 ∧ CB P (b + 1) q.2 := by
  have h8 := bc_8 S
  have h88 := pw8_b h8
  unfold f_X3_answer
  rw [x_bits hS, o_bs]
  unfold oj_pf
  rw [o_bs, o_bs]
  simp only
  have hs0 : oj_sm (fun a _ => a = 18) m (ej_w (ej_w m 18 4 (nI (bc S))) 18 5 0) := sm_trans (sm_w rfl) (sm_w rfl)
  have e4 : (ej_w (ej_w m 18 4 (nI (bc S))) 18 5 0).1 18 4 = nI (bc S) := by rw [w_other (by omega), w_same]
  have e5 : (ej_w (ej_w m 18 4 (nI (bc S))) 18 5 0).1 18 5 = 0 := w_same
  generalize ej_w (ej_w m 18 4 (nI (bc S))) 18 5 0 = m1 at hs0 e4 e5 ⊢
  have hgo : ∀ (one : Bool) (E : Int32), E = (if one = true then 1 else 40320) → oj_wp (f_X3_fill oj_RF 0 (nI S) (ej_w m1 18 6 E)) fun q => OX (bc S) (oS P w g F one S) q.2 ∧ oj_sm SOa m q.2 ∧ CB P (b + 1) q.2 := fun one E hE => by
    have hs1 : oj_sm (fun a _ => a = 18) m (ej_w m1 18 6 E) := sm_trans hs0 (sm_w rfl)
    have hsX : oj_sm SX m (ej_w m1 18 6 E) := sm_mono hs1 fun a j q => by unfold SX; omega
    unfold f_X3_fill
    have := x_fill (one := one) (b := b + 1) h8 hb hg hF (bc S) 0 S (119 - bc S) (fun _ => 0) (0, fun _ => 0) (ej_w m1 18 6 E) rfl hS (by omega) (XK_go hsX hK) (CB_N (CB_fr hs1 hC (fun i => by omega) (by omega) (by omega) (fun i hi => by omega)) _) (by rw [w_other (by omega)]; exact e4) (by rw [w_same]; exact hE) (fun q hq => (hs1.2 19 q (by omega)).trans (h19 q hq)) (fun q hq => absurd hq (Nat.not_lt_zero _)) (fun q hq => absurd hq (Nat.not_lt_zero _)) ⟨by rw [w_other (by omega)]; exact e5, fun h => absurd (show 1 ≤ 0 from h) (by decide)⟩ (by simp only; omega) (fun _ => rfl) (fun _ => by
      have h1 := ls_fac (F := F) (LW := LWf P w g (bc S)) (bc S) 0 S (fun _ => 0) rfl hS
      have h2 := o_fac8 h8
      simp only
      omega)
    rw [show bc S + (119 - bc S) + 1 = oj_RF by unfold oj_RF; omega] at this
    refine wp_mono this fun q hq => ?_
    obtain ⟨q1, q2, q3, q4⟩ := hq
    exact ⟨q1, sm_trans (sm_mono hs1 fun a j q => Or.inr q) (sm_mono q2 fun a j q => Or.inl q), CN_B q3⟩
  cases t with
  | none =>
    rw [if_pos (show oT none = -1 from rfl)]
    unfold f_X3_answer_B25 oj_pf
    rw [o_bs]
    refine wp_bind (wp_mono (hgo false 40320 rfl) fun q hq => ?_)
    obtain ⟨q1, q2, q3⟩ := hq
    rw [if_pos (show oT none = -1 from rfl)]
    exact wp_some ⟨q1.1, q2, q3⟩
  | some p =>
    have hp := ht p rfl
    have hne : ¬ oT (some p) = -1 := nI_neq1 (by omega)
    rw [if_neg hne]
    unfold f_X3_answer_B25 oj_pf
    rw [o_bs]
    refine wp_bind (wp_mono (hgo true 1 rfl) fun q hq => ?_)
    obtain ⟨q1, q2, q3⟩ := hq
    obtain ⟨c1, c2⟩ := st1_both (ls F (LWf P w g (bc S)) (bc S) 0 S (fun _ => 0)) (fun _ => 0)
    have hb1 := oS_b (P := P) (w := w) (g := g) (F := F) (one := true) (S := S)
    rw [if_neg hne, q1.1]
    unfold oA
    simp only
    by_cases e0 : (oS P w g F false S).1 = 0
    · have e1 : (oS P w g F true S).1 = 0 := c1.mpr e0
      rw [if_pos (by rw [e1]; rfl), if_pos e0]
      exact wp_some ⟨rfl, q2, q3⟩
    · have e1 : ¬ (oS P w g F true S).1 = 0 := fun z => e0 (c1.mp z)
      have e2 : (oS P w g F true S).2 = (oS P w g F false S).2 := c2 e0
      rw [if_neg (fun z => e1 ((nI_eq0 (by omega)).mp z)), if_neg e0]
      rw [show f_X10_at 21 (oT (some p)) q.2 = some (q.2.1 21 p, q.2) from p_at1 ar_21 (by omega) q.2, o_bs, q1.2 (by omega) p hp, e2]
      exact wp_some ⟨rfl, q2, q3⟩
def SOb (a j : Nat) : Prop := SOm a j ∨ (a = 41 ∧ (j = 29 ∨ j = 32))
theorem m_orders {P : Option (List (List Int32 × List Int32))} {w : Nat → Int32} {g : Int32} {S N : Nat} {F : Nat → Nat → Bool} {v : Int32} {m : ej_M} (hN : N ≤ 8) (hS : S < 2 ^ N) (hK : MK P w g N m) (h1 : m.1 41 1 = nI N) (hF : ∀ m', oj_sm SOb m m' → m'.1 41 32 = v → ∀ p s, p < bc S → s < N → f_X11_fitsBook (nI p) (nI s) m' = some (if F p s = true then 1 else 0, m')) :
    oj_wp (f_X11_orders (nI S) v m) fun q => q.1 = nI (oS P w g F false S).1 ∧ oj_sm SOb m q.2 ∧ (1 ≤ (oS P w g F false S).1 → ∀ p, p < bc S → q.2.1 57 p = nI ((oS P w g F false S).2 p)) := by
  have h256 := pw_8 hN
  have h8 := bc_8 S
  have h88 := pw8_b h8
  unfold f_X11_orders oj_pf
  rw [o_bs, m_bits (by omega), o_bs, o_bs, o_bs]
  simp only
  have hs0 : oj_sm SOb m (ej_w (ej_w (ej_w m 41 32 v) 41 29 (nI (bc S))) 41 31 0) := by
    refine sm_trans (sm_trans (sm_w ?_) (sm_w ?_)) (sm_w ?_) <;> · unfold SOb SOm; omega
  have e32 : (ej_w (ej_w (ej_w m 41 32 v) 41 29 (nI (bc S))) 41 31 0).1 41 32 = v := by rw [w_other (by omega), w_other (by omega), w_same]
  have e29 : (ej_w (ej_w (ej_w m 41 32 v) 41 29 (nI (bc S))) 41 31 0).1 41 29 = nI (bc S) := by rw [w_other (by omega), w_same]
  have e31 : (ej_w (ej_w (ej_w m 41 32 v) 41 29 (nI (bc S))) 41 31 0).1 41 31 = 0 := w_same
  generalize ej_w (ej_w (ej_w m 41 32 v) 41 29 (nI (bc S))) 41 31 0 = m1 at hs0 e32 e29 e31 ⊢
  have hSM : oj_sm SM m m1 := sm_mono hs0 fun a j q => by unfold SOb SOm MC at q; unfold SM; omega
  unfold f_X11_goOrders
  have := m_go (P := P) (w := w) (g := g) (n := bc S) (N := N) (F := F) (m0 := m1) hN h8 (fun m' hs p s hp hs' => hF m' (sm_trans hs0 (sm_mono hs fun a j q => Or.inl q)) ((hs.2 41 32 (by unfold SOm MC; omega)).trans e32) p s hp hs') (bc S) S (119 - bc S) (fun _ => 0) (0, fun _ => 0) m1 rfl hS (Nat.le_refl _) sm_refl (MK_go hN hSM hK) ((hs0.2 41 1 (by unfold SOb SOm MC; omega)).trans h1) e29 (fun q hq => absurd hq (by omega)) ⟨e31, fun h => absurd (show 1 ≤ 0 from h) (by decide)⟩ (by simp only; omega)
  rw [show bc S + (119 - bc S) + 1 = oj_RF by unfold oj_RF; omega, Nat.sub_self] at this
  refine wp_bind (wp_mono this fun q hq => ?_)
  obtain ⟨q1, q2, q4⟩ := hq
  exact wp_some ⟨q1.1, sm_trans hs0 (sm_mono q2 fun a j q => Or.inl q), q1.2⟩
theorem x_fitAll {m : ej_M} : oj_wp (f_X3_fitAll m) fun q => oj_sm (fun a _ => a = 19) m q.2 ∧ ∀ p, p < 8 → q.2.1 19 p = -1 := by
  unfold f_X3_fitAll f_X3_fitAll_L2
  refine wp_loop (fun i (z : Int32 × ej_M) => z.1 = nI i ∧ oj_sm (fun a _ => a = 19) m z.2 ∧ ∀ p, p < i → z.2.1 19 p = -1) 8 (by decide) (fun i z hi hI => ?_) (fun z hI => ?_) (i0 := 0) (by decide) ⟨rfl, sm_refl, fun p h => absurd h (Nat.not_lt_zero _)⟩
  · obtain ⟨a, m1⟩ := z
    obtain ⟨rfl, i1, i2⟩ := hI
    simp only at i1 i2 ⊢
    unfold f_X3_fitAll_L2b
    rw [if_neg (show ¬ (8 : Int32) ≤ nI i from fun q => by have := (nI_leI (a := 8) (by decide) (by omega)).mp q; omega), p_lay1 ar_19 (by omega), o_bs, nI_1]
    refine wp_inl ⟨rfl, sm_trans i1 (sm_a fun j => rfl), fun p hp => ?_⟩
    simp only
    rw [oj_row_s]
    unfold upd
    by_cases e : p = i
    · rw [if_pos e]
    · rw [if_neg e]; exact i2 p (by omega)
  · obtain ⟨a, m1⟩ := z
    obtain ⟨rfl, i1, i2⟩ := hI
    simp only at i1 i2 ⊢
    unfold f_X3_fitAll_L2b
    rw [if_pos (show (8 : Int32) ≤ nI 8 from Int32.le_refl _)]
    exact wp_inr ⟨i1, i2⟩
theorem SOa_SX {a j : Nat} (h : SOa a j) : SX a j := by unfold SOa SOx XC at h; unfold SX; omega
theorem SOb_SM {a j : Nat} (h : SOb a j) : SM a j := by unfold SOb SOm MC at h; unfold SM; omega
theorem m_noBook {m : ej_M} (h : m.1 41 32 = -1) (v1 v2 : Int32) : f_X11_fitsBook v1 v2 m = some (1, m) := by
  unfold f_X11_fitsBook
  rw [h, if_pos (by decide)]
theorem t_cases (v : Int32) (c : Nat) (hc : c < 2 ^ 30) : (∃ t : Option Nat, v = oT t ∧ ∀ p, t = some p → p < c) ∨ (v < -1 ∨ nI c ≤ v) := by
  by_cases a : v < -1
  · exact Or.inr (Or.inl a)
  · by_cases e : v < 0
    · refine Or.inl ⟨none, ?_, fun p h => by cases h⟩
      rw [Int32.lt_iff_toInt_lt] at a e
      apply Int32.toInt_inj.mp
      rw [show (-1 : Int32).toInt = -1 by decide] at a
      rw [show (oT none).toInt = -1 by decide]
      rw [show (0 : Int32).toInt = 0 by decide] at e
      omega
    · obtain ⟨j, hj, rfl⟩ := nI_of e
      by_cases q : j < c
      · exact Or.inl ⟨some j, rfl, fun p h => by cases h; exact q⟩
      · exact Or.inr (Or.inr ((nI_leI (by omega) hj).mpr (by omega)))
theorem oT_lo (t : Option Nat) (c : Nat) (hc : c < 2 ^ 30) (h : ∀ p, t = some p → p < c) : ¬ oT t < -1 ∧ oT t < nI c ∧ -1 ≤ oT t ∧ oT t ≤ nI c - 1 := by
  cases t with
  | none =>
    refine ⟨by decide, Int32.lt_of_lt_of_le (show (-1 : Int32) < 0 by decide) (nI_0le (by omega)), Int32.le_refl _, ?_⟩
    by_cases e : c = 0
    · subst e; decide
    · rw [nI_m1 (by omega)]; exact Int32.le_trans (show (-1 : Int32) ≤ 0 by decide) (nI_0le (by omega))
  | some p =>
    have hp := h p rfl
    refine ⟨fun q => absurd (Int32.lt_trans q (by decide)) (nI_pos (n := p) (by omega)), i_lt hp (by omega), Int32.le_trans (show (-1 : Int32) ≤ 0 by decide) (nI_0le (by omega)), ?_⟩
    rw [nI_m1 (by omega)]; exact (nI_leI (by omega) (by omega)).mpr (by omega)
theorem p_inF {v : Int32} {c : Nat} (hc : c < 2 ^ 30) (h : v < -1 ∨ nI c ≤ v) (m : ej_M) : f_X11_in v (-1) (nI c - 1) m = some (0, m) := by
  refine p_in0 ?_ m
  rintro ⟨a, d⟩
  rcases h with q | q
  · exact absurd a (Int32.not_le.mpr q)
  · by_cases e : c = 0
    · subst e
      exact absurd (Int32.le_trans q d) (by decide)
    · rw [nI_m1 (by omega)] at d
      have := (nI_leI (by omega) (by omega)).mp (Int32.le_trans q d)
      omega
/-- the reference's last step -/
theorem m_last {P : Option (List (List Int32 × List Int32))} {w : Nat → Int32} {g : Int32} {S : Nat} {F : Nat → Nat → Bool} {t : Option Nat} {q : Int32 × ej_M} (ht : ∀ p, t = some p → p < bc S) (h1 : q.1 = nI (oS P w g F false S).1) (h2 : 1 ≤ (oS P w g F false S).1 → ∀ p, p < bc S → q.2.1 57 p = nI ((oS P w g F false S).2 p)) : (if 0 ≤ oT t then if q.1 = 0 then some (-2, q.2) else (oj_ld 0 q.2 57 (oT t)).bind fun w5 => some (w5, q.2) else some (q.1, q.2)) = some (oA P w g F S t, q.2) := by
  have hb1 := oS_b (P := P) (w := w) (g := g) (F := F) (one := false) (S := S)
  have h8 := bc_8 S
  cases t with
  | none =>
    rw [if_neg (show ¬ 0 ≤ oT none by decide), h1]
    rfl
  | some p =>
    have hp := ht p rfl
    rw [if_pos (show 0 ≤ oT (some p) from nI_0le (by omega)), h1]
    unfold oA
    simp only
    by_cases e0 : (oS P w g F false S).1 = 0
    · rw [if_pos (by rw [e0]; rfl), if_pos e0]
    · rw [if_neg (fun z => e0 ((nI_eq0 (by omega)).mp z)), if_neg e0, show oj_ld 0 q.2 57 (oT (some p)) = some (q.2.1 57 p) from oj_ar_ld ar_57 (by omega) q.2, o_bs, h2 (by omega) p hp]
theorem op_rows (v1 v2 : Int32) : OP (f_X10_rows v1 v2) (f_X11_rows v1 v2) := by
  refine OP_no1 (v := -1) (fun L xs n k ρ P nb m hI => ?_) (fun _ _ _ _ _ _ _ _ _ _ _ => trivial)
  obtain ⟨h1, h2, h3, h4, h5, h6, h7, h8, h9, h10, h11, h12, h13, h14, h15⟩ := id hI.1
  have h256 := pw_8 h1
  rcases r_cases v1 (2 ^ n) with ⟨S, hS, rfl⟩ | hN
  · have hb8 := bc_8 S
    rcases t_cases v2 (bc S) (by omega) with ⟨t, rfl, ht⟩ | hbad
    · right
      intro b hC hb
      obtain ⟨t1, t2, t3, t4⟩ := oT_lo t (bc S) (by omega) ht
      unfold f_X10_rows
      rw [x_setY h3 h1 hS, o_bs, if_neg i10, if_neg t1, x_bits (by omega), o_bs, if_pos t2]
      refine wp_bind (wp_mono x_fitAll fun q hq => ?_)
      obtain ⟨q1, q2⟩ := hq
      have hsX : oj_sm SX m q.2 := sm_mono q1 fun a j z => by unfold SX; omega
      refine wp_bind (wp_mono (x_answer (S := S) (b := b) (F := fun _ _ => true) (fv := fun _ => -1) (t := t) (by omega) (by unfold oST at hb; omega) h11 (fun p s _ _ => ⟨fun _ => Or.inl rfl, fun _ => rfl⟩) (XK_go hsX (IV_XK hI)) (CB_fr q1 hC (fun i => by omega) (by omega) (by omega) (fun i hi => by omega)) q2 ht) fun r hr => ?_)
      obtain ⟨r1, r2, r3⟩ := hr
      refine wp_some ⟨sm_trans hsX (sm_mono r2 fun _ _ => SOa_SX), CB_le r3 (by unfold oST; omega), fun m' hI' hs => ?_⟩
      have hM := IV_MK hI' hs
      unfold f_X11_rows
      rw [m_setY hI'.1.2.2.2.1 h1 hS, o_bs, if_neg i10, m_bits (by omega), o_bs]
      simp only
      rw [p_in1 t3 t4, o_bs, if_neg i10]
      refine wp_bind (wp_mono (m_orders (S := S) (F := fun _ _ => true) (v := -1) h1 hS hM hI'.1.2.2.2.1 (fun m2 _ e p s _ _ => m_noBook e _ _)) fun z hz => ?_)
      obtain ⟨z1, z2, z3⟩ := hz
      rw [m_last ht z1 z3]
      exact wp_some ⟨r1, sm_mono z2 fun _ _ => SOb_SM⟩
    · left
      unfold f_X10_rows f_X11_rows
      rw [x_setY h3 h1 hS, o_bs, if_neg i10, m_setY h4 h1 hS, o_bs, if_neg i10, m_bits (by omega), o_bs]
      simp only
      rw [p_inF (by omega) hbad, o_bs, if_pos rfl]
      refine ⟨?_, rfl⟩
      by_cases a : v2 < -1
      · rw [if_pos a]
      · rw [if_neg a, x_bits (by omega), o_bs, if_neg (Int32.not_lt.mpr (hbad.resolve_left a))]
  · left
    unfold f_X10_rows f_X11_rows
    rw [x_setN h3 h1 hN, o_bs, if_pos rfl, m_setN h4 h1 hN, o_bs, if_pos rfl]
    exact ⟨rfl, rfl⟩
theorem op_worth (v1 v2 : Int32) : OP (f_X10_worth v1 v2) (f_X11_worth v1 v2) := by
  refine OP_no1 (v := -2000000000) (fun L xs n k ρ P nb m hI => ?_) (fun _ _ _ _ _ _ _ _ _ _ _ => trivial)
  obtain ⟨h1, h2, h3, h4, h5, h6, h7, h8, h9, h10, h11, h12, h13, h14, h15⟩ := id hI.1
  have h256 := pw_8 h1
  rcases r_cases v1 (2 ^ n) with ⟨S, hS, rfl⟩ | hN
  · rcases r_cases v2 n with ⟨s, hs, rfl⟩ | hN2
    · by_cases es : sb S s = true
      · right
        intro b hC hb
        have hz : ¬ ((nI S >>> (nI s &&& 31)) &&& 1) = 0 := fun q => ((sb_0 (by omega) (by omega)).mp q) es
        obtain ⟨d1, d2⟩ := and_dec S (by omega) s (by omega) es
        unfold f_X10_worth
        rw [x_setY h3 h1 hS, o_bs, if_neg i10, x_hasY h3 (by omega) hs, o_bs, if_neg i10, if_neg hz]
        simp only
        refine wp_bind (wp_mono x_fitAll fun q hq => ?_)
        obtain ⟨q1, q2⟩ := hq
        have hsX : oj_sm SX m q.2 := sm_mono q1 fun a j z => by unfold SX; omega
        have hK0 := IV_XK hI
        refine wp_bind (wp_mono (x_answer (S := S) (b := b) (F := fun _ _ => true) (fv := fun _ => -1) (t := none) (by omega) (by unfold oST at hb; omega) h11 (fun p s _ _ => ⟨fun _ => Or.inl rfl, fun _ => rfl⟩) (XK_go hsX hK0) (CB_fr q1 hC (fun i => by omega) (by omega) (by omega) (fun i hi => by omega)) q2 (fun p h => by cases h)) fun r hr => ?_)
        obtain ⟨r1, r2, r3⟩ := hr
        have hsX2 := sm_trans hsX (sm_mono r2 fun _ _ => SOa_SX)
        rw [d1]
        refine wp_bind (wp_mono (x_answer (S := S - 2 ^ s) (b := b + 1) (F := fun _ _ => true) (fv := fun _ => -1) (t := none) (by omega) (by unfold oST at hb; omega) h11 (fun p s _ _ => ⟨fun _ => Or.inl rfl, fun _ => rfl⟩) (XK_go hsX2 hK0) r3 (fun q' hq' => (r2.2 19 q' (by unfold SOa SOx XC; omega)).trans (q2 q' hq')) (fun p h => by cases h)) fun u hu => ?_)
        obtain ⟨u1, u2, u3⟩ := hu
        refine wp_some ⟨sm_trans hsX2 (sm_mono u2 fun _ _ => SOa_SX), CB_le u3 (by unfold oST; omega), fun m' hI' hsm => ?_⟩
        have hM := IV_MK hI' hsm
        unfold f_X11_worth
        rw [m_setY hI'.1.2.2.2.1 h1 hS, o_bs, if_neg i10, m_stoneY hI'.1.2.2.2.1 (by omega) hs, o_bs, if_neg i10, if_neg hz]
        simp only
        refine wp_bind (wp_mono (m_orders (S := S) (F := fun _ _ => true) (v := -1) h1 hS hM hI'.1.2.2.2.1 (fun m2 _ e p s _ _ => m_noBook e _ _)) fun z hz => ?_)
        obtain ⟨z1, z2, z3⟩ := hz
        have hsM := sm_mono z2 fun _ _ => SOb_SM
        rw [d1]
        refine wp_bind (wp_mono (m_orders (S := S - 2 ^ s) (F := fun _ _ => true) (v := -1) h1 (by omega) (MK_go h1 hsM hM) ((z2.2 41 1 (by unfold SOb SOm MC; omega)).trans hI'.1.2.2.2.1) (fun m2 _ e p s _ _ => m_noBook e _ _)) fun y hy => ?_)
        obtain ⟨y1, y2, y3⟩ := hy
        refine wp_some ⟨?_, sm_trans hsM (sm_mono y2 fun _ _ => SOb_SM)⟩
        simp only
        rw [r1, u1, z1, y1]
        rfl
      · left
        have hz : ((nI S >>> (nI s &&& 31)) &&& 1) = 0 := (sb_0 (by omega) (by omega)).mpr es
        unfold f_X10_worth f_X11_worth
        rw [x_setY h3 h1 hS, o_bs, if_neg i10, x_hasY h3 (by omega) hs, o_bs, if_neg i10, if_pos hz, m_setY h4 h1 hS, o_bs, if_neg i10, m_stoneY h4 (by omega) hs, o_bs, if_neg i10, if_pos hz]
        exact ⟨rfl, rfl⟩
    · left
      unfold f_X10_worth f_X11_worth
      rw [x_setY h3 h1 hS, o_bs, if_neg i10, x_hasN h3 (by omega) hN2, o_bs, if_pos rfl, m_setY h4 h1 hS, o_bs, if_neg i10, m_stoneN h4 (by omega) hN2, o_bs, if_pos rfl]
      exact ⟨rfl, rfl⟩
  · left
    unfold f_X10_worth f_X11_worth
    rw [x_setN h3 h1 hN, o_bs, if_pos rfl, m_setN h4 h1 hN, o_bs, if_pos rfl]
    exact ⟨rfl, rfl⟩
