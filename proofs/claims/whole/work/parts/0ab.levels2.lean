/-! law: each level, all levels -/
theorem rl_e {n lev o : Nat} {m : ej_M} (h : lev < 5) (h2 : lev ≠ 2) : (g_X2_readLevel (n + 1)).1 (nI lev) (nI o) m = ((g_X2_readLevel n).1 (nI (lev + 1)) (nI o) m).bind fun q1 => if q1.1 = 0 then some (0, q1.2) else oj_loop (xLb (g_X2_readLevel n) lev o 120) oj_FU (0, q1.2) := by
  show f_X2_readLevel_e (g_X2_readLevel n) (nI lev) (nI o) m = _
  unfold f_X2_readLevel_e
  rw [if_pos (show nI lev < 5 from (nI_ltI (b := 5) (by omega) (by decide)).mpr h), nI_1]
  refine congrArg _ (funext fun q1 => ?_)
  by_cases z : q1.1 = 0
  · rw [if_pos z, if_pos z]
  · rw [if_neg z, if_neg z, if_neg (show ¬ nI lev = 2 from fun q => h2 ((nI_eq (b := 2) (by omega) (by decide)).mp q))]
    rfl
theorem ml_e {n lev : Nat} {m : ej_M} (hl : lev = 0 ∨ lev = 1 ∨ lev = 3 ∨ lev = 4) : gm lev (g_X11_either (n + 1)) m = (gm (lev + 1) (g_X11_either n) m).bind fun q1 => oj_loop (mLb lev (g_X11_either n)) oj_FU q1.2 := by
  rcases hl with rfl | rfl | rfl | rfl <;> rfl
theorem lev_step {l : Nat} {c : Nat → Nat} (hc : HC l c) {lev o : Nat} (hl : lev = 0 ∨ lev = 1 ∨ lev = 3 ∨ lev = 4) (H : ∀ i, i ≤ l → EL l c (lev + 1) o i) : ∀ i, i ≤ l → EL l c lev o i := by
  intro i hi
  have hl120 := hc.1
  have hl5 : lev < 5 := by omega
  obtain ⟨i1, r1, ⟨w1, w2, w3⟩, hX, hM⟩ := H i hi
  have hF : 1000 < oj_FU := by unfold oj_FU; decide
  have hF1 : oj_FU = (oj_FU - 1) + 1 := by omega
  cases r1 with
  | none =>
    refine ⟨i1, none, WR_none w1 w2, fun n hn => ?_, fun n hn => ?_⟩
    · obtain ⟨n, rfl⟩ : ∃ n', n = n' + 1 := ⟨n - 1, by omega⟩
      refine CX_none fun m b g hT hb => ?_
      obtain ⟨v, b', g', e1, e2, e3⟩ := CX_n (hX n (by omega)) hT (b := b) (g := g) hb
      refine ⟨v, b', g', ?_, e2, e3⟩
      rw [rl_e hl5 (by omega), e1, o_bs]
      rcases e2 with rfl | ⟨rfl, e2⟩
      · rw [if_pos rfl]
      · rw [if_neg i10, hF1]
        exact loop_inr (xLb_no hc hT w2 hl5 (sg_dg hl5 e2))
    · obtain ⟨n, rfl⟩ : ∃ n', n = n' + 1 := ⟨n - 1, by omega⟩
      refine CM_none fun m b A W hT hb => ?_
      obtain ⟨o', b', A', W', e1, e2, e3⟩ := CM_n (hM n (by omega)) hT (b := b) (A := A) (W := W) hb
      refine ⟨o', b', A', W', ?_, e2, e3⟩
      rw [ml_e hl, e1, o_bs, hF1]
      exact loop_inr (mLb_end (nI_pos' (by omega)) hl)
  | some ts1 =>
    obtain ⟨w4, w5, w6⟩ := w3 ts1 rfl
    obtain ⟨i2, r2, ⟨u1, u2, u3⟩, iX, iM⟩ := lev_loop hc (o := o) (N := 7 * (6 - o) + 7 - (lev + 1)) hl H (l - i1) i1 w2 (Nat.le_refl _)
    cases r2 with
    | none =>
      refine ⟨i2, none, WR_none (by omega) u2, fun n hn => ?_, fun n hn => ?_⟩
      · obtain ⟨n, rfl⟩ : ∃ n', n = n' + 1 := ⟨n - 1, by omega⟩
        refine CX_none fun m b g hT hb => ?_
        obtain ⟨v, b', g', e1, e2, e3⟩ := CX_n (iX n (by omega) oj_FU 0 (by omega) (by omega)) hT (b := b + ts1.length) (g := apL g b ts1) (by omega)
        refine ⟨v, b', g', ?_, e2, by omega⟩
        rw [rl_e hl5 (by omega), CX_s (hX n (by omega)) hT hb, o_bs, if_neg i10]
        exact e1
      · obtain ⟨n, rfl⟩ : ∃ n', n = n' + 1 := ⟨n - 1, by omega⟩
        refine CM_none fun m b A W hT hb => ?_
        obtain ⟨o', b', A', W', e1, e2, e3⟩ := CM_n (iM n (by omega) oj_FU (by omega)) hT (b := b + ts1.length) (A := apL A (130 + b) (ts1.map mt_A)) (W := apL W (130 + b) (ts1.map mw)) (by omega)
        refine ⟨o', b', A', W', ?_, by omega, fun j hj => ?_⟩
        · rw [ml_e hl, CM_s (hM n (by omega)) hT hb, o_bs]
          exact e1
        · obtain ⟨z1, z2⟩ := e3 j (by omega)
          exact ⟨z1.trans (ap_lo _ _ _ _ hj), z2.trans (ap_lo _ _ _ _ hj)⟩
    | some ts2 =>
      obtain ⟨u4, u5, u6⟩ := u3 ts2 rfl
      refine ⟨i2, some (ts1 ++ ts2), WR_some (by omega) u2 (by rw [List.length_append]; omega) (fun d => ?_) (fun t ht => ?_), fun n hn => ?_, fun n hn => ?_⟩
      · rw [tk_app, w5 d]
        exact u5 d
      · rcases List.mem_append.mp ht with ht | ht
        · exact w6 t ht
        · exact u6 t ht
      · obtain ⟨n, rfl⟩ : ∃ n', n = n' + 1 := ⟨n - 1, by omega⟩
        refine CX_some fun m b g hT hb => ?_
        rw [rl_e hl5 (by omega), CX_s (hX n (by omega)) hT hb, o_bs, if_neg i10, List.length_append, ap_app, ← Nat.add_assoc]
        exact CX_s (iX n (by omega) oj_FU 0 (by omega) (by omega)) hT (by omega)
      · obtain ⟨n, rfl⟩ : ∃ n', n = n' + 1 := ⟨n - 1, by omega⟩
        refine CM_some fun m b A W hT hb => ?_
        rw [ml_e hl, CM_s (hM n (by omega)) hT hb, o_bs, List.length_append, List.map_append, List.map_append, ap_app, ap_app, List.length_map, List.length_map, ← Nat.add_assoc, Nat.add_assoc 130]
        exact CM_s (iM n (by omega) oj_FU (by omega)) hT (by omega)
theorem rl_c {n o : Nat} {m : ej_M} : (g_X2_readLevel (n + 1)).1 (nI 2) (nI o) m = ((g_X2_readLevel n).1 (nI (2 + 1)) (nI o) m).bind fun q1 => if q1.1 = 0 then some (0, q1.2) else oj_loop (xLb (g_X2_readLevel n) 2 o 1) oj_FU (0, q1.2) := by
  show f_X2_readLevel_e (g_X2_readLevel n) (nI 2) (nI o) m = _
  unfold f_X2_readLevel_e
  rw [if_pos (show nI 2 < (5 : Int32) by decide), nI_1]
  refine congrArg _ (funext fun q1 => ?_)
  by_cases z : q1.1 = 0
  · rw [if_pos z, if_pos z]
  · rw [if_neg z, if_neg z, if_pos (show nI 2 = (2 : Int32) from rfl)]
    rfl
theorem mc_e {l : Nat} {c : Nat → Nat} (hc : HC l c) {n i b : Nat} {f o : Int32} {A W : Nat → Int32} {m m0 : ej_M} (h : gm 3 (g_X11_either n) m0 = some ((), mT m i f o b A W)) (hT : TpM l c m) (hi : i ≤ l) : gm 2 (g_X11_either (n + 1)) m0 =
    if 0 ≤ f then some ((), mT m i f o b A W) else if c i ∈ stn 6 then (gm 3 (g_X11_either n) (mT m (i + 1) f o b A W)).bind fun q2 => (f_X11_addStep (nI (c i)) 0 q2.2).bind fun q3 => some ((), q3.2) else some ((), mT m i f o b A W) := by
  show f_X11_compared_e (g_X11_either n) m0 = _
  unfold f_X11_compared_e
  have h' : (g_X11_either n).2.2.2.1 m0 = some ((), mT m i f o b A W) := h
  rw [h', o_bs, m_look hc hT hi, o_bs, mT_17]
  by_cases z : 0 ≤ f
  · rw [if_pos z, if_pos z]
  · rw [if_neg z, if_neg z]
    have hB : ∀ v, f_X11_compared_B35 (g_X11_either n) v (mT m i f o b A W) = (gm 3 (g_X11_either n) (mT m (i + 1) f o b A W)).bind fun q2 => (f_X11_addStep v 0 q2.2).bind fun q3 => some ((), q3.2) := fun v => by
      unfold f_X11_compared_B35 oj_pf
      rw [o_bs, mT_16, nI_1, mT_w16]
      rfl
    by_cases h1 : c i = 60
    · rw [if_pos (show lk (c i) = 60 from (m_is (v := 60) hc (by decide)).mpr h1), if_pos (stn_6.mpr (Or.inl h1)), hB, lk_lo (by omega)]
    · rw [if_neg (show ¬ lk (c i) = 60 from lk_no (v := 60) hc (by decide) h1)]
      by_cases h2 : c i = 61
      · rw [if_pos (show lk (c i) = 61 from (m_is (v := 61) hc (by decide)).mpr h2), if_pos (stn_6.mpr (Or.inr (Or.inl h2))), hB, lk_lo (by omega)]
      · rw [if_neg (show ¬ lk (c i) = 61 from lk_no (v := 61) hc (by decide) h2)]
        by_cases h3 : c i = 62
        · rw [if_pos (show lk (c i) = 62 from (m_is (v := 62) hc (by decide)).mpr h3), if_pos (stn_6.mpr (Or.inr (Or.inr h3))), hB, lk_lo (by omega)]
        · rw [if_neg (show ¬ lk (c i) = 62 from lk_no (v := 62) hc (by decide) h3), if_neg (fun q => by have := stn_6.mp q; omega)]
theorem lev_two {l : Nat} {c : Nat → Nat} (hc : HC l c) {o : Nat} (H : ∀ i, i ≤ l → EL l c 3 o i) : ∀ i, i ≤ l → EL l c 2 o i := by
  intro i hi
  have hl120 := hc.1
  obtain ⟨i1, r1, ⟨w1, w2, w3⟩, hX, hM⟩ := H i hi
  have hF : 1000 < oj_FU := by unfold oj_FU; decide
  have hF1 : oj_FU = (oj_FU - 2) + 1 + 1 := by omega
  have hm10 : ¬ (1 : Int32) ≤ 0 := by decide
  have hf1 : ¬ (0 : Int32) ≤ -1 := by decide
  cases r1 with
  | none =>
    refine ⟨i1, none, WR_none w1 w2, fun n hn => ?_, fun n hn => ?_⟩
    · obtain ⟨n, rfl⟩ : ∃ n', n = n' + 1 := ⟨n - 1, by omega⟩
      refine CX_none fun m b g hT hb => ?_
      obtain ⟨v, b', g', e1, e2, e3⟩ := CX_n (hX n (by omega)) hT (b := b) (g := g) hb
      refine ⟨v, b', g', ?_, e2, e3⟩
      rw [rl_c, e1, o_bs]
      rcases e2 with rfl | ⟨rfl, e2⟩
      · rw [if_pos rfl]
      · rw [if_neg i10, hF1]
        exact loop_inr (xLb_no hc hT w2 (by decide) (sg_dg (by decide) e2))
    · obtain ⟨n, rfl⟩ : ∃ n', n = n' + 1 := ⟨n - 1, by omega⟩
      refine CM_none fun m b A W hT hb => ?_
      obtain ⟨o', b', A', W', e1, e2, e3⟩ := CM_n (hM n (by omega)) hT (b := b) (A := A) (W := W) hb
      refine ⟨o', b', A', W', ?_, e2, e3⟩
      rw [mc_e hc e1 hT w2, if_pos (nI_pos' (by omega))]
  | some ts1 =>
    obtain ⟨w4, w5, w6⟩ := w3 ts1 rfl
    by_cases hs : c i1 ∈ stn (4 + 2)
    · have hlt := stn_lt (t := 4 + 2) (by omega) hs
      have hil : i1 < l := HC_in hc (by omega)
      obtain ⟨t1, t2, t3, t4, t5, t6⟩ := sg_tok 2 (by decide) (c i1) hs
      obtain ⟨i2, r2, ⟨u1, u2, u3⟩, iX, iM⟩ := H (i1 + 1) (by omega)
      have eX : ∀ n m b (g : Nat → Int32), TpX l c m → xLb (g_X2_readLevel n) 2 o 1 (0, xT m i1 b g) = _ := fun n m b g hT => xLb_yes (most := 1) (v4 := 0) (o := o) (R := g_X2_readLevel n) hc hT w2 (by decide) hs hm10
      cases r2 with
      | none =>
        refine ⟨i2, none, WR_none (by omega) u2, fun n hn => ?_, fun n hn => ?_⟩
        · obtain ⟨n, rfl⟩ : ∃ n', n = n' + 1 := ⟨n - 1, by omega⟩
          refine CX_none fun m b g hT hb => ?_
          obtain ⟨v, b', g', e1, e2, e3⟩ := CX_n (iX n (by omega)) hT (b := b + ts1.length) (g := apL g b ts1) (by omega)
          rw [rl_c, CX_s (hX n (by omega)) hT hb, o_bs, if_neg i10, hF1]
          rcases e2 with rfl | ⟨rfl, e2⟩
          · refine ⟨0, b', g', loop_inr ?_, Or.inl rfl, by omega⟩
            rw [eX n m _ _ hT, e1, o_bs, if_pos rfl]
          · obtain ⟨g2, eg⟩ := x_emitAny (m := m) (i := i2) (b := b') (g := g') (v := -nI (c i1)) (by omega)
            refine ⟨1, b' + 1, g2, (loop_inl (s' := (0 + 1, xT m i2 (b' + 1) g2)) ?_).trans (loop_inr (xLb_no hc hT u2 (by decide) (sg_dg (by decide) e2))), Or.inr ⟨rfl, e2⟩, by omega⟩
            rw [eX n m _ _ hT, e1, o_bs, if_neg i10, eg, o_bs]
        · obtain ⟨n, rfl⟩ : ∃ n', n = n' + 1 := ⟨n - 1, by omega⟩
          refine CM_none fun m b A W hT hb => ?_
          obtain ⟨o', b', A', W', e1, e2, e3⟩ := CM_n (iM n (by omega)) hT (b := b + ts1.length) (A := apL A (130 + b) (ts1.map mt_A)) (W := apL W (130 + b) (ts1.map mw)) (by omega)
          refine ⟨o', b' + 1, upd A' (130 + b') (nI (c i1)), upd W' (130 + b') 0, ?_, by omega, fun j hj => ?_⟩
          · rw [mc_e hc (CM_s (hM n (by omega)) hT hb) hT w2, if_neg hf1, if_pos hs, e1, o_bs, m_step hlt.1 (by omega), o_bs]
          · obtain ⟨z1, z2⟩ := e3 j (by omega)
            exact ⟨(if_neg (by omega)).trans (z1.trans (ap_lo _ _ _ _ hj)), (if_neg (by omega)).trans (z2.trans (ap_lo _ _ _ _ hj))⟩
      | some ts2 =>
        obtain ⟨u4, u5, u6⟩ := u3 ts2 rfl
        have hlen : (ts1 ++ (ts2 ++ [-nI (c i1)])).length = ts1.length + ts2.length + 1 := by
          rw [List.length_append, List.length_append]; show ts1.length + (ts2.length + 1) = _; omega
        refine ⟨i2, some (ts1 ++ (ts2 ++ [-nI (c i1)])), WR_some (by omega) u2 (by omega) (fun d => ?_) (fun t ht => ?_), fun n hn => ?_, fun n hn => ?_⟩
        · rw [tk_app, w5 d, o_bs, tk_app, u5 (d + 1), o_bs]
          show (tk_dp (d + 1 + 1) (-nI (c i1))).bind (fun d' => some d') = some (d + 1)
          rw [tk_two t3 t4 t5]
          rfl
        · rcases List.mem_append.mp ht with ht | ht
          · exact w6 t ht
          · rcases List.mem_append.mp ht with ht | ht
            · exact u6 t ht
            · rw [List.mem_singleton.mp ht]; exact ⟨c i1, hlt.1, t1⟩
        · obtain ⟨n, rfl⟩ : ∃ n', n = n' + 1 := ⟨n - 1, by omega⟩
          refine CX_some fun m b g hT hb => ?_
          rw [rl_c, CX_s (hX n (by omega)) hT hb, o_bs, if_neg i10, hF1, hlen, ap_app, ap_app, ap_one]
          refine (loop_inl (s' := (0 + 1, xT m i2 (b + ts1.length + ts2.length + 1) (upd (apL (apL g b ts1) (b + ts1.length) ts2) (b + ts1.length + ts2.length) (-nI (c i1))))) ?_).trans ((loop_inr (e := (1, xT m i2 (b + ts1.length + ts2.length + 1) (upd (apL (apL g b ts1) (b + ts1.length) ts2) (b + ts1.length + ts2.length) (-nI (c i1))))) ?_).trans ?_)
          · rw [eX n m _ _ hT, CX_s (iX n (by omega)) hT (by omega), o_bs, if_neg i10, x_emit (by omega), o_bs]
          · unfold xLb f_X2_readLevel_L39b
            rw [if_pos (show (1 : Int32) ≤ 0 + 1 by decide)]
          · rw [show b + ts1.length + ts2.length + 1 = b + (ts1.length + ts2.length + 1) by omega]
        · obtain ⟨n, rfl⟩ : ∃ n', n = n' + 1 := ⟨n - 1, by omega⟩
          refine CM_some fun m b A W hT hb => ?_
          rw [mc_e hc (CM_s (hM n (by omega)) hT hb) hT w2, if_neg hf1, if_pos hs, CM_s (iM n (by omega)) hT (by omega), o_bs, m_step hlt.1 (by omega), o_bs, hlen]
          simp only [List.map_append, ap_app, List.length_map, List.map_cons, List.map_nil, ap_one, t1, t2]
          rw [show b + ts1.length + ts2.length + 1 = b + (ts1.length + ts2.length + 1) by omega, show 130 + (b + ts1.length) = 130 + b + ts1.length by omega, show 130 + (b + ts1.length + ts2.length) = 130 + b + ts1.length + ts2.length by omega]
    · refine ⟨i1, some ts1, WR_some w1 w2 w4 w5 w6, fun n hn => ?_, fun n hn => ?_⟩
      · obtain ⟨n, rfl⟩ : ∃ n', n = n' + 1 := ⟨n - 1, by omega⟩
        refine CX_some fun m b g hT hb => ?_
        rw [rl_c, CX_s (hX n (by omega)) hT hb, o_bs, if_neg i10, hF1]
        exact loop_inr (xLb_no hc hT w2 (by decide) hs)
      · obtain ⟨n, rfl⟩ : ∃ n', n = n' + 1 := ⟨n - 1, by omega⟩
        refine CM_some fun m b A W hT hb => ?_
        rw [mc_e hc (CM_s (hM n (by omega)) hT hb) hT w2, if_neg hf1, if_neg hs]
theorem lev_five {l : Nat} {c : Nat → Nat} {o : Nat} (H : ∀ i, i ≤ l → ES l c o i) : ∀ i, i ≤ l → EL l c 5 o i := by
  intro i hi
  obtain ⟨i1, r1, w, hX, hM⟩ := H i hi
  refine ⟨i1, r1, w, fun n hn => ?_, fun n hn => hM n (by omega)⟩
  obtain ⟨n, rfl⟩ : ∃ n', n = n' + 1 := ⟨n - 1, by omega⟩
  have e : ∀ m, (g_X2_readLevel (n + 1)).1 (nI 5) (nI o) m = ((g_X2_readLevel n).2 (nI o) m).bind fun q2 => oj_rz q2.1 q2.2 := fun m => by
    show f_X2_readLevel_e (g_X2_readLevel n) (nI 5) (nI o) m = _
    unfold f_X2_readLevel_e
    rw [if_neg (show ¬ nI 5 < (5 : Int32) by decide)]
  intro m b g hT hb
  obtain ⟨h1, h2⟩ := hX n (by omega) m b g hT hb
  refine ⟨fun ts ht => ?_, fun ht => ?_⟩
  · rw [e, h1 ts ht, o_bs]
    exact if_pos (Or.inr rfl)
  · obtain ⟨v, b', g', e1, e2, e3⟩ := h2 ht
    refine ⟨v, b', g', ?_, e2, e3⟩
    rw [e, e1, o_bs]
    exact if_pos (e2.imp id fun q => q.1)
theorem el_of_es {l : Nat} {c : Nat → Nat} (hc : HC l c) {o : Nat} (H : ∀ i, i ≤ l → ES l c o i) : ∀ i, i ≤ l → EL l c 0 o i :=
  lev_step hc (Or.inl rfl) (lev_step hc (Or.inr (Or.inl rfl)) (lev_two hc (lev_step hc (Or.inr (Or.inr (Or.inl rfl))) (lev_step hc (Or.inr (Or.inr (Or.inr rfl))) (lev_five H)))))
theorem es_all {l : Nat} {c : Nat → Nat} (hc : HC l c) : ∀ k o, o ≤ 6 → 6 - o ≤ k → ∀ i, i ≤ l → ES l c o i := by
  intro k
  induction k with
  | zero =>
    intro o ho hk i hi
    obtain rfl : o = 6 := by omega
    by_cases hd : dg (c i)
    · exact es_number hc hi hd
    · by_cases h0 : c i ∈ stn 0
      · exact es_name hc hi h0
      · exact es_deep hc hi hd h0
  | succ k ih =>
    intro o ho hk i hi
    by_cases ho6 : o = 6
    · exact ih o ho (by omega) i hi
    · have ih' := ih (o + 1) (by omega) (by omega)
      by_cases hd : dg (c i)
      · exact es_number hc hi hd
      · by_cases h0 : c i ∈ stn 0
        · exact es_name hc hi h0
        · by_cases h40 : c i = 40
          · exact es_par hc hi (by omega) h40 (el_of_es hc ih')
          · by_cases hb : c i = 33 ∨ c i = 45
            · exact es_bang hc hi (by omega) hb ih'
            · exact es_else hc hi (by omega) hd h0 (by omega) (by omega) h40
theorem el_0 {l : Nat} {c : Nat → Nat} (hc : HC l c) {i : Nat} (hi : i ≤ l) : EL l c 0 0 i := el_of_es hc (es_all hc 6 0 (by decide) (by decide)) i hi
