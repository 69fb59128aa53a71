/-! fewest: the search, in the first -/
def SF0 (a j : Nat) : Prop := XC a j ∨ a = 32 ∨ a = 33 ∨ (a = 28 ∧ j = 6)
def SF1 (a j : Nat) : Prop := SF0 a j ∨ a = 31
def SF2 (a j : Nat) : Prop := SF1 a j ∨ a = 30
theorem SF2_SX {a j : Nat} (h : SF2 a j) : SX a j := by unfold SF2 SF1 SF0 XC at h; unfold SX; omega
def QX (LW : (Nat → Nat) → Bool) (k : Nat) (ρ : Nat → Nat) (Q : List ((Nat → Nat) × Nat)) (m : ej_M) : Prop :=
  m.1 28 6 = nI Q.length ∧ (∀ (i : Nat) (e : (Nat → Nat) × Nat), Q[i]? = some e → m.1 33 i = nI (pkd e.1 k)) ∧ (∀ (e : (Nat → Nat) × Nat), e ∈ Q → m.1 32 (rk e.1 k) = nI e.2)
    ∧ ∀ x, x < 720 → ¬ vis k Q x = true → m.1 32 x = -1 ∨ (m.1 32 x = -2 ∧ ∀ r, PR k ρ r → rk r k = x → ¬ LW r = true)
theorem QX_fr {LW : (Nat → Nat) → Bool} {k : Nat} {ρ : Nat → Nat} {Q : List ((Nat → Nat) × Nat)} {S : Nat → Nat → Prop} {m m' : ej_M} (hs : oj_sm S m m') (h : QX LW k ρ Q m) (h1 : ¬ S 28 6) (h2 : ∀ i, ¬ S 32 i) (h3 : ∀ i, ¬ S 33 i) : QX LW k ρ Q m' := by
  obtain ⟨a, b, c, d⟩ := h
  refine ⟨(hs.2 28 6 h1).trans a, fun i e he => (hs.2 33 i (h3 i)).trans (b i e he), fun e he => (hs.2 32 _ (h2 _)).trans (c e he), fun x hx hv => ?_⟩
  rw [hs.2 32 x (h2 x)]
  exact d x hx hv
theorem x_push {LW : (Nat → Nat) → Bool} {k d : Nat} {ρ r : Nat → Nat} {Q : List ((Nat → Nat) × Nat)} {m : ej_M} (hk : k ≤ 6) (hQ : QX LW k ρ Q m) (hl : Q.length < 720) (hr : ∀ q, q < k → m.1 31 q = nI (r q) ∧ r q < 8) (hv : ¬ vis k Q (rk r k) = true) :
    oj_wp (f_X9_reach_B52 (nI k) (nI d) (nI (rk r k)) m) fun q => oj_sm SF0 m q.2 ∧ oj_sm (fun a j => a = 32 ∨ a = 33 ∨ (a = 28 ∧ j = 6)) m q.2 ∧ QX LW k ρ (Q ++ [(r, d)]) q.2 := by
  obtain ⟨a, b, c, dd⟩ := hQ
  unfold f_X9_reach_B52
  rw [p_lay1 ar_32 (rk_lt hk), o_bs]
  simp only
  rw [x_packed hk (fun q hq => by rw [oj_row_n (by decide)]; exact hr q hq), o_bs]
  simp only
  rw [oj_row_n (show (28 : Nat) ≠ 32 by decide), a, p_lay1 ar_33 hl, o_bs]
  unfold oj_pf
  simp only
  rw [o_bs, oj_row_n (show (28 : Nat) ≠ 33 by decide), oj_row_n (show (28 : Nat) ≠ 32 by decide), a, nI_1, oj_row_n (show (33 : Nat) ≠ 32 by decide)]
  have hs : oj_sm (fun a j => a = 32 ∨ a = 33 ∨ (a = 28 ∧ j = 6)) m (ej_w (oj_row (oj_row m 32 (upd (m.1 32) (rk r k) (nI d))) 33 (upd (m.1 33) Q.length (nI (pkd r k)))) 28 6 (nI (Q.length + 1))) :=
    sm_trans (sm_trans (sm_a fun j => by omega) (sm_a fun j => by omega)) (sm_w (by omega))
  refine wp_some ⟨sm_mono hs fun x j q => by unfold SF0; omega, hs, ?_, fun i e he => ?_, fun e he => ?_, fun x hx hvx => ?_⟩
  · rw [w_same, List.length_append]; rfl
  · simp only
    rw [w_place (by decide), oj_row_s]
    unfold upd
    by_cases l : i < Q.length
    · rw [if_neg (by omega)]
      rw [List.getElem?_append_left l] at he
      exact b i e he
    · rw [List.getElem?_append_right (by omega)] at he
      have hi : i - Q.length = 0 := by
        by_cases z : i - Q.length = 0
        · exact z
        · rw [List.getElem?_eq_none (by show 1 ≤ _; omega)] at he; cases he
      rw [hi] at he
      rw [if_pos (by omega), show e = (r, d) from (Option.some.inj he).symm]
  · simp only
    rw [w_place (by decide), oj_row_n (by decide), oj_row_s]
    unfold upd
    rcases List.mem_append.mp he with z | z
    · rw [if_neg (fun w => hv (vis_iff.mpr ⟨e, z, w⟩))]
      exact c e z
    · rw [List.mem_singleton.mp z, if_pos rfl]
  · simp only
    rw [w_place (by decide), oj_row_n (by decide), oj_row_s]
    rw [vis_app] at hvx
    have hx2 : x ≠ rk r k := fun w => hvx (by rw [decide_eq_true w, Bool.or_true])
    unfold upd
    rw [if_neg hx2]
    exact dd x hx fun w => hvx (by rw [w, Bool.true_or])
theorem x_reach {P : Option (List (List Int32 × List Int32))} {w : Nat → Int32} {g : Int32} {k b d : Nat} {ρ r : Nat → Nat} {Q : List ((Nat → Nat) × Nat)} {m : ej_M} (hk : k ≤ 6) (hb : b < 2 ^ 28) (hK : XK P w g m) (hC : CN P k b m) (hQ : QX (LWf P w g k) k ρ Q m) (hW : QW k ρ Q) (hr : ∀ q, q < k → m.1 31 q = nI (r q) ∧ r q < 8) (hP : PR k ρ r) (hd1 : 1 ≤ d) (hd : d ≤ Q.length) :
    oj_wp (f_X9_reach (nI k) (nI d) m) fun q => oj_sm SF0 m q.2 ∧ CN P k b q.2 ∧ QX (LWf P w g k) k ρ (ad (LWf P w g k) k Q r d) q.2 := by
  have hR := rk_lt (r := r) hk
  have hlen := QW_len hW
  unfold f_X9_reach
  rw [x_rank ar_31 hk hk hr, o_bs]
  simp only
  rw [p_at1 ar_32 hR, o_bs]
  simp only
  by_cases hv : vis k Q (rk r k) = true
  · obtain ⟨e, e1, e2⟩ := vis_iff.mp hv
    obtain ⟨i, hi⟩ := List.mem_iff_getElem?.mp e1
    have h2 := (hW.1 i e hi).2.2
    have hil : i < Q.length := by
      by_cases z : i < Q.length
      · exact z
      · rw [List.getElem?_eq_none (by omega)] at hi; cases hi
    rw [← e2, hQ.2.2.1 e e1, if_neg (nI_neq1 (by omega))]
    refine wp_some ⟨sm_refl, hC, ?_⟩
    unfold ad
    rw [if_pos hv]
    exact hQ
  · rcases hQ.2.2.2 _ hR hv with h1 | ⟨h1, h2⟩
    · rw [h1, if_pos rfl, if_neg (show ¬ nI d ≤ 0 from fun q => by have := (nI_leI (b := 0) (by omega) (by omega)).mp q; omega)]
      refine wp_bind (wp_mono (xk_allC hK hC hb (by omega) ar_31 hk hr (by decide)) fun q hq => ?_)
      obtain ⟨q1, q2, q3⟩ := hq
      have hQ2 : QX (LWf P w g k) k ρ Q q.2 := QX_fr q2 hQ (by unfold XC; omega) (fun i => by unfold XC; omega) (fun i => by unfold XC; omega)
      by_cases hl : LWf P w g k r = true
      · rw [q1, if_pos hl, if_neg i10]
        have hlt : Q.length < 720 := by
          have := QW_len (QW_app hk hW hv hP (fun q hq => (hr q hq).2) hd)
          rw [List.length_append] at this
          exact this
        refine wp_mono (x_push (d := d) hk hQ2 hlt (fun q' hq' => by rw [q2.2 31 q' (by unfold XC; omega)]; exact hr q' hq') hv) fun t ht => ?_
        obtain ⟨t1, t2, t3⟩ := ht
        refine ⟨sm_trans (sm_mono q2 fun a j z => Or.inl z) t1, CN_fr t2 q3 (fun i => by omega) (by omega) (by omega) (fun i _ => by omega), ?_⟩
        unfold ad
        rw [if_neg hv, if_pos hl]
        exact t3
      · rw [q1, if_neg hl, if_pos rfl, p_lay1 ar_32 hR, o_bs]
        have hs : oj_sm SF0 q.2 (oj_row q.2 32 (upd (q.2.1 32) (rk r k) (-2))) := sm_a fun j => Or.inr (Or.inl rfl)
        refine wp_some ⟨sm_trans (sm_mono q2 fun a j z => Or.inl z) hs, CN_row q3 (by decide), ?_⟩
        obtain ⟨a, b', c, dd⟩ := hQ2
        unfold ad
        rw [if_neg hv, if_neg hl]
        refine ⟨?_, fun i e he => ?_, fun e he => ?_, fun x hx hvx => ?_⟩
        · simp only
          rw [oj_row_n (by decide)]; exact a
        · simp only
          rw [oj_row_n (by decide)]; exact b' i e he
        · simp only
          rw [oj_row_s]
          unfold upd
          rw [if_neg (fun z => hv (vis_iff.mpr ⟨e, he, z⟩))]
          exact c e he
        · simp only
          rw [oj_row_s]
          unfold upd
          by_cases z : x = rk r k
          · rw [if_pos z]
            refine Or.inr ⟨rfl, fun r' hr' e => ?_⟩
            rw [LWf_congr (rk_inj hr' hP (e.trans z))]
            exact hl
          · rw [if_neg z]; exact dd x hx hvx
    · rw [h1, if_neg (show ¬ (-2 : Int32) = -1 by decide)]
      refine wp_some ⟨sm_refl, hC, ?_⟩
      unfold ad
      rw [if_neg hv, if_neg (h2 r hP rfl)]
      exact hQ
theorem x_eachIn {P : Option (List (List Int32 × List Int32))} {w : Nat → Int32} {g : Int32} {k b i : Nat} {ρ : Nat → Nat} {Q : List ((Nat → Nat) × Nat)} {e : (Nat → Nat) × Nat} {m : ej_M} (hk : k ≤ 6) (hb : b < 2 ^ 28) (hi : i < k) (hK : XK P w g m) (hC : CN P k b m) (hQ : QX (LWf P w g k) k ρ Q m) (hW : QW k ρ Q) (hr : ∀ q, q < k → m.1 30 q = nI (e.1 q) ∧ e.1 q < 8) (hP : PR k ρ e.1) (hd : e.2 + 1 ≤ Q.length) :
    oj_wp (f_X9_turnEachWay_L12 (nI k) (nI (e.2 + 1)) (nI i) (nI (i + 1)) m) (oj_k (fun s => s.1 = nI (i + 1) ∧ oj_sm SF1 m s.2 ∧ CN P k b s.2 ∧ QX (LWf P w g k) k ρ (tj (LWf P w g k) k Q e i k) s.2) fun _ => False) := by
  unfold f_X9_turnEachWay_L12
  refine wp_loop (fun j (s : Int32 × ej_M) => s.1 = nI j ∧ i < j ∧ oj_sm SF1 m s.2 ∧ CN P k b s.2 ∧ QX (LWf P w g k) k ρ (tj (LWf P w g k) k Q e i j) s.2) k (by unfold oj_FU; omega) (fun j s hj hJ => ?_) (fun s hJ => ?_) (i0 := i + 1) (by omega) ⟨rfl, by omega, sm_refl, hC, by rw [tj_lo (i + 1) (Nat.le_refl _)]; exact hQ⟩
  · obtain ⟨v, m1⟩ := s
    obtain ⟨rfl, hij, i1, i2, i3⟩ := hJ
    simp only at i1 i2 i3 ⊢
    unfold f_X9_turnEachWay_L12b
    have hs : oj_sm SF1 m1 (oj_row m1 31 (o_rv i j (o_cp k (m1.1 30) (m1.1 31)))) := sm_a fun _ => Or.inr rfl
    have hW2 := tj_QW (LW := LWf P w g k) (i := i) hk hW hP (fun q hq => (hr q hq).2) hd j (by omega)
    rw [if_neg (fun q => by have := (nI_leI (by omega) (by omega)).mp q; omega), x_copy ar_30 ar_31 (by decide) hk hk (by omega), o_bs]
    simp only
    rw [x_reverse ar_31 (by decide) (by omega) (by omega), o_bs, oj_row_row, oj_row_s]
    refine wp_bind (wp_mono (x_reach (r := r_rv i j e.1) hk hb (XK_go (sm_mono (sm_trans i1 hs) fun a j z => SF2_SX (Or.inl z)) hK) (CN_row i2 (by decide)) (QX_fr (S := fun a _ => a = 31) (sm_a fun _ => rfl) i3 (by omega) (fun i => by omega) (fun i => by omega)) hW2.1 (fun q hq => ?_) (PR_rv hij hj hP) (by omega) (Nat.le_trans hd hW2.2.length_le)) fun t ht => ?_)
    · simp only
      rw [oj_row_s]
      refine ⟨rv_nI hj (fun q hq => ?_) hq, ?_⟩
      · unfold o_cp
        rw [if_pos hq, i1.2 30 q (by unfold SF1 SF0 XC; omega)]
        exact (hr q hq).1
      · unfold r_rv
        split
        · exact (hr _ (by omega)).2
        · exact (hr _ hq).2
    · obtain ⟨t1, t2, t3⟩ := ht
      rw [nI_1]
      refine wp_inl ⟨rfl, by omega, sm_trans (sm_trans i1 hs) (sm_mono t1 fun a j z => Or.inl z), t2, ?_⟩
      rw [tj_s1 hij]
      exact t3
  · obtain ⟨v, m1⟩ := s
    obtain ⟨rfl, hij, i1, i2, i3⟩ := hJ
    simp only at i1 i2 i3 ⊢
    unfold f_X9_turnEachWay_L12b
    rw [if_pos (Int32.le_refl _), nI_1]
    exact wp_inr ⟨rfl, i1, i2, i3⟩
theorem x_each {P : Option (List (List Int32 × List Int32))} {w : Nat → Int32} {g : Int32} {k b : Nat} {ρ : Nat → Nat} {Q : List ((Nat → Nat) × Nat)} {e : (Nat → Nat) × Nat} {m : ej_M} (hk : k ≤ 6) (hb : b < 2 ^ 28) (hK : XK P w g m) (hC : CN P k b m) (hQ : QX (LWf P w g k) k ρ Q m) (hW : QW k ρ Q) (hr : ∀ q, q < k → m.1 30 q = nI (e.1 q) ∧ e.1 q < 8) (hP : PR k ρ e.1) (hd : e.2 + 1 ≤ Q.length) :
    oj_wp (f_X9_turnEachWay (nI k) (nI (e.2 + 1)) m) fun s => oj_sm SF1 m s.2 ∧ CN P k b s.2 ∧ QX (LWf P w g k) k ρ (ti (LWf P w g k) k Q e k) s.2 := by
  unfold f_X9_turnEachWay f_X9_turnEachWay_L2
  refine wp_loop (fun i (s : Int32 × ej_M) => s.1 = nI i ∧ oj_sm SF1 m s.2 ∧ CN P k b s.2 ∧ QX (LWf P w g k) k ρ (ti (LWf P w g k) k Q e i) s.2) k (by unfold oj_FU; omega) (fun i s hi hJ => ?_) (fun s hJ => ?_) (i0 := 0) (by omega) ⟨rfl, sm_refl, hC, hQ⟩
  · obtain ⟨v, m1⟩ := s
    obtain ⟨rfl, i1, i2, i3⟩ := hJ
    simp only at i1 i2 i3 ⊢
    unfold f_X9_turnEachWay_L2b
    have hW2 := ti_QW (LW := LWf P w g k) hk hW hP (fun q hq => (hr q hq).2) hd i
    rw [if_neg (fun q => by have := (nI_leI (by omega) (by omega)).mp q; omega), nI_1]
    refine wp_mono (x_eachIn hk hb hi (XK_go (sm_mono i1 fun a j z => SF2_SX (Or.inl z)) hK) i2 i3 hW2.1 (fun q hq => by rw [i1.2 30 q (by unfold SF1 SF0 XC; omega)]; exact hr q hq) hP (Nat.le_trans hd hW2.2.length_le)) fun t ht => ?_
    cases t with
    | inl s =>
      obtain ⟨t1, t2, t3, t4⟩ := ht
      exact ⟨t1, sm_trans i1 t2, t3, t4⟩
    | inr s => exact ht.elim
  · obtain ⟨v, m1⟩ := s
    obtain ⟨rfl, i1, i2, i3⟩ := hJ
    simp only at i1 i2 i3 ⊢
    unfold f_X9_turnEachWay_L2b
    rw [if_pos (Int32.le_refl _)]
    exact wp_inr ⟨i1, i2, i3⟩
