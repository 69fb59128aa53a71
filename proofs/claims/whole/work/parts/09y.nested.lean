/-! law: an operand that holds another -/
theorem m_f0 {m : ej_M} {i b k : Nat} {o : Int32} {A W : Nat → Int32} (hk : k < 2 ^ 31) : ¬ (mT m i (nI k) o b A W).1 41 17 < 0 := by
  rw [mT_17]
  exact nI_pos hk
theorem es_par {l : Nat} {c : Nat → Nat} (hc : HC l c) {o i : Nat} (hi : i ≤ l) (ho : o < 6) (h : c i = 40) (H : ∀ i, i ≤ l → EL l c 0 (o + 1) i) : ES l c o i := by
  have hl := hc.1
  have hil : i < l := HC_in hc (by omega)
  have hnd : ¬ dg (c i) := fun q => by have := q.1; omega
  have h0 : ¬ c i ∈ stn 0 := fun q => by have := stn_0.mp q; omega
  obtain ⟨i1, r1, ⟨w1, w2, w3⟩, hX, hM⟩ := H (i + 1) (by omega)
  have eX : ∀ (R : ((Int32 → Int32 → ej_M → Option (Int32 × ej_M)) × (Int32 → ej_M → Option (Int32 × ej_M)))) (m : ej_M) (b : Nat) (g : Nat → Int32), TpX l c m → f_X2_readSingle_e R (nI o) (xT m i b g) = (R.1 (nI 0) (nI (o + 1)) (xT m (i + 1) b g)).bind fun q7 => if q7.1 = 0 then some (0, q7.2) else (f_X2_passed (2002) q7.2).bind fun q8 => if q8.1 = 0 then some (0, q8.2) else some (1, q8.2) := fun R m b g hT => by
    rw [x_single0 hc hT hi hnd h0, if_pos (o_lt6 ho), x_pass1 (t := 1) rfl (by decide) hc hT hi (stn_1.mpr h), o_bs, if_neg (fun q => by have := (nI_eq0 (by omega)).mp q; omega), nI_1]
    rfl
  have eM : ∀ (R : ((ej_M → Option (Unit × ej_M)) × (ej_M → Option (Unit × ej_M)) × (ej_M → Option (Unit × ej_M)) × (ej_M → Option (Unit × ej_M)) × (ej_M → Option (Unit × ej_M)) × (ej_M → Option (Unit × ej_M)))) (m : ej_M) (b : Nat) (A W : Nat → Int32), TpM l c m → f_X11_operand_e R (mT m i (-1) (nI o) b A W) = (R.1 (mT m (i + 1) (-1) (nI (o + 1)) b A W)).bind fun q5 =>
            if (q5.2.1 41 17) < 0 then
              (f_X11_look q5.2).bind fun q6 =>
              if q6.1 = 41 then
                (oj_pf q6.2 41 16 ((q6.2.1 41 16) + 1)).bind fun m7 =>
                (oj_pf m7 41 18 ((m7.1 41 18) - 1)).bind fun m8 =>
                some ((), m8)
              else
                (f_X11_faulty q6.2).bind fun q9 =>
                some ((), q9.2)
            else
              some ((), q5.2) := fun R m b A W hT => by
    rw [m_opPar hc hT hi h, m_opens ho, o_bs, if_neg i10]
  cases r1 with
  | none =>
    refine ⟨i1, none, WR_none (by omega) w2, fun n hn => ?_, fun n hn => ?_⟩
    · obtain ⟨n, rfl, hn⟩ := n_succ hn
      refine CX_none fun m b g hT hb => ?_
      obtain ⟨v, b', g', e1, e2, e3⟩ := CX_n (hX n (by omega)) hT (b := b) (g := g) (by omega)
      refine ⟨0, b', g', ?_, Or.inl rfl, by omega⟩
      show f_X2_readSingle_e (g_X2_readLevel n) (nI o) (xT m i b g) = _
      rw [eX _ m b g hT, e1, o_bs]
      rcases e2 with rfl | ⟨rfl, e2⟩
      · rw [if_pos rfl]
      · rw [if_neg i10, x_pass0 (t := 2) rfl (by decide) hc hT w2 (fun q => by have := stn_2.mp q; have := e2.1; omega), o_bs, if_pos rfl]
    · obtain ⟨n, rfl, hn⟩ := n_succ hn
      refine CM_none fun m b A W hT hb => ?_
      obtain ⟨o', b', A', W', e1, e2, e3⟩ := CM_n (hM n (by omega)) hT (b := b) (A := A) (W := W) (by omega)
      refine ⟨o', b', A', W', ?_, by omega, e3⟩
      show f_X11_operand_e (g_X11_either n) (mT m i (-1) (nI o) b A W) = _
      have e1' : (g_X11_either n).1 (mT m (i + 1) (-1) (nI (o + 1)) b A W) = _ := e1
      rw [eM _ m b A W hT, e1', o_bs, if_neg (m_f0 (by omega))]
  | some t1 =>
    obtain ⟨w4, w5, w6⟩ := w3 t1 rfl
    by_cases h41 : c i1 = 41
    · have hil1 : i1 < l := HC_in hc (by omega)
      refine ⟨i1 + 1, some t1, WR_some (by omega) (by omega) (by omega) w5 w6, fun n hn => ?_, fun n hn => ?_⟩
      · obtain ⟨n, rfl, hn⟩ := n_succ hn
        refine CX_some fun m b g hT hb => ?_
        show f_X2_readSingle_e (g_X2_readLevel n) (nI o) (xT m i b g) = _
        rw [eX _ m b g hT, CX_s (hX n (by omega)) hT (by omega), o_bs, if_neg i10, x_pass1 (t := 2) rfl (by decide) hc hT w2 (stn_2.mpr h41), o_bs, if_neg (fun q => by have := (nI_eq0 (by omega)).mp q; omega)]
      · obtain ⟨n, rfl, hn⟩ := n_succ hn
        refine CM_some fun m b A W hT hb => ?_
        show f_X11_operand_e (g_X11_either n) (mT m i (-1) (nI o) b A W) = _
        have e1 : (g_X11_either n).1 (mT m (i + 1) (-1) (nI (o + 1)) b A W) = _ := CM_s (hM n (by omega)) hT (by omega)
        rw [eM _ m b A W hT, e1, o_bs, mT_17, if_pos (by decide), m_look hc hT w2, o_bs, if_pos (show lk (c i1) = 41 from (m_is (v := 41) hc (by decide)).mpr h41)]
        unfold oj_pf
        rw [o_bs, mT_16, nI_1, mT_w16, mT_18, nI_m1 (by omega), o_bs, mT_w18]
        rfl
    · refine ⟨i1, none, WR_none (by omega) w2, fun n hn => ?_, fun n hn => ?_⟩
      · obtain ⟨n, rfl, hn⟩ := n_succ hn
        refine CX_none fun m b g hT hb => ?_
        refine ⟨0, b + t1.length, apL g b t1, ?_, Or.inl rfl, by omega⟩
        show f_X2_readSingle_e (g_X2_readLevel n) (nI o) (xT m i b g) = _
        rw [eX _ m b g hT, CX_s (hX n (by omega)) hT (by omega), o_bs, if_neg i10, x_pass0 (t := 2) rfl (by decide) hc hT w2 (fun q => h41 (stn_2.mp q)), o_bs, if_pos rfl]
      · obtain ⟨n, rfl, hn⟩ := n_succ hn
        refine CM_none fun m b A W hT hb => ?_
        refine ⟨nI (o + 1), b + t1.length, apL A (130 + b) (t1.map mt_A), apL W (130 + b) (t1.map mw), ?_, by omega, fun j hj => ⟨ap_lo _ _ _ _ hj, ap_lo _ _ _ _ hj⟩⟩
        show f_X11_operand_e (g_X11_either n) (mT m i (-1) (nI o) b A W) = _
        have e1 : (g_X11_either n).1 (mT m (i + 1) (-1) (nI (o + 1)) b A W) = _ := CM_s (hM n (by omega)) hT (by omega)
        rw [eM _ m b A W hT, e1, o_bs, mT_17, if_pos (by decide), m_look hc hT w2, o_bs, if_neg (show ¬ lk (c i1) = 41 from fun q => h41 ((m_is (v := 41) hc (by decide)).mp q)), m_faulty, o_bs]
theorem bang_tok : ∀ k, k < 2 → mt_A (if k = 0 then -33 else -126) = nI (3 + k) ∧ mw (if k = 0 then -33 else -126) = 0 ∧ ¬ ((if k = 0 then (-33 : Int32) else -126) = -59 ∨ (if k = 0 then (-33 : Int32) else -126) = -63) ∧ (if k = 0 then (-33 : Int32) else -126) < -6 ∧ ((if k = 0 then (-33 : Int32) else -126) = -33 ∨ (if k = 0 then (-33 : Int32) else -126) = -126) := by decide +kernel
theorem tk_one {t : Int32} (h : ¬ (t = -59 ∨ t = -63)) (h6 : t < -6) (h1 : t = -33 ∨ t = -126) (d : Nat) : tk_dps (d + 1) [t] = some (d + 1) := by
  show (tk_dp (d + 1) t).bind (fun d' => some d') = _
  unfold tk_dp
  rw [if_neg h, if_pos h6, if_pos h1, if_pos (by omega)]
  rfl
theorem es_bang {l : Nat} {c : Nat → Nat} (hc : HC l c) {o i : Nat} (hi : i ≤ l) (ho : o < 6) (h : c i = 33 ∨ c i = 45) (H : ∀ i, i ≤ l → ES l c (o + 1) i) : ES l c o i := by
  have hl := hc.1
  have hil : i < l := HC_in hc (by omega)
  have hnd : ¬ dg (c i) := fun q => by have := q.1; omega
  have h0 : ¬ c i ∈ stn 0 := fun q => by have := stn_0.mp q; omega
  obtain ⟨k, hk, hkc⟩ : ∃ k, k < 2 ∧ (k = 0 ↔ c i = 33) := by
    rcases h with h | h
    · exact ⟨0, by decide, by omega⟩
    · exact ⟨1, by decide, by omega⟩
  obtain ⟨t1, t2, t3, t4, t5⟩ := bang_tok k hk
  generalize ht : (if k = 0 then (-33 : Int32) else -126) = t at *
  obtain ⟨i1, r1, ⟨w1, w2, w3⟩, hX, hM⟩ := H (i + 1) (by omega)
  have eX : ∀ (R : ((Int32 → Int32 → ej_M → Option (Int32 × ej_M)) × (Int32 → ej_M → Option (Int32 × ej_M)))) (m : ej_M) (b : Nat) (g : Nat → Int32), TpX l c m → f_X2_readSingle_e R (nI o) (xT m i b g) = (R.2 (nI (o + 1)) (xT m (i + 1) b g)).bind fun q6 => if q6.1 = 0 then some (0, q6.2) else f_X2_readSingle_B121 R t q6.2 := fun R m b g hT => by
    rw [x_single0 hc hT hi hnd h0, if_pos (o_lt6 ho), x_pass0 (t := 1) rfl (by decide) hc hT hi (fun q => by have := stn_1.mp q; omega), o_bs, if_pos rfl, x_pass1 (t := 3) rfl (by decide) hc hT hi (stn_3.mpr h), o_bs, if_neg (fun q => by have := (nI_eq0 (by omega)).mp q; omega), nI_1]
    have e33 : (if nI (c i) = 33 then f_X2_readSingle_B121 R (-33) else f_X2_readSingle_B121 R (-126)) = f_X2_readSingle_B121 R t := by
      rw [← ht]
      by_cases z : k = 0
      · rw [if_pos z, if_pos (by rw [hkc.mp z]; rfl)]
      · rw [if_neg z, if_neg (show ¬ nI (c i) = 33 from fun q => z (hkc.mpr ((nI_eq (b := 33) (by omega) (by decide)).mp q)))]
    refine congrArg _ (funext fun q6 => ?_)
    rw [← e33]
    by_cases z : nI (c i) = 33
    · simp only [if_pos z]
    · simp only [if_neg z]
  have eM : ∀ (R : ((ej_M → Option (Unit × ej_M)) × (ej_M → Option (Unit × ej_M)) × (ej_M → Option (Unit × ej_M)) × (ej_M → Option (Unit × ej_M)) × (ej_M → Option (Unit × ej_M)) × (ej_M → Option (Unit × ej_M)))) (m : ej_M) (b : Nat) (A W : Nat → Int32), TpM l c m → f_X11_operand_e R (mT m i (-1) (nI o) b A W) = (R.2.2.2.2.2 (mT m (i + 1) (-1) (nI (o + 1)) b A W)).bind fun q2 =>
      (oj_pf q2.2 41 18 ((q2.2.1 41 18) - 1)).bind fun m3 => f_X11_operand_B80 R (nI (3 + k)) m3 := fun R m b A W hT => by
    rw [m_opBang hc hT hi h]
    unfold f_X11_operand_B46
    rw [m_opens ho, o_bs, if_neg i10]
    refine congrArg _ (funext fun q2 => congrArg _ (funext fun m3 => ?_))
    by_cases z : k = 0
    · rw [if_pos (show lk (c i) = 33 from (m_is (v := 33) hc (by decide)).mpr (hkc.mp z)), z]
      rfl
    · rw [if_neg (show ¬ lk (c i) = 33 from fun q => z (hkc.mpr ((m_is (v := 33) hc (by decide)).mp q))), show k = 1 by omega]
      rfl
  cases r1 with
  | none =>
    refine ⟨i1, none, WR_none (by omega) w2, fun n hn => ?_, fun n hn => ?_⟩
    · obtain ⟨n, rfl, hn⟩ := n_succ hn
      refine CX_none fun m b g hT hb => ?_
      obtain ⟨v, b', g', e1, e2, e3⟩ := CX_n (hX n (by omega)) hT (b := b) (g := g) (by omega)
      have e0 : (g_X2_readLevel (n + 1)).2 (nI o) (xT m i b g) = f_X2_readSingle_e (g_X2_readLevel n) (nI o) (xT m i b g) := rfl
      rw [e0, eX _ m b g hT, e1, o_bs]
      rcases e2 with rfl | ⟨rfl, e2⟩
      · exact ⟨0, b', g', if_pos rfl, Or.inl rfl, by omega⟩
      · obtain ⟨g2, eg⟩ := x_emitAny (m := m) (i := i1) (b := b') (g := g') (v := t) (by omega)
        refine ⟨1, b' + 1, g2, ?_, Or.inr ⟨rfl, e2⟩, by omega⟩
        rw [if_neg i10]
        unfold f_X2_readSingle_B121
        rw [eg, o_bs]
    · obtain ⟨n, rfl, hn⟩ := n_succ hn
      refine CM_none fun m b A W hT hb => ?_
      obtain ⟨o', b', A', W', e1, e2, e3⟩ := CM_n (hM n (by omega)) hT (b := b) (A := A) (W := W) (by omega)
      refine ⟨o' - 1, b' + 1, upd A' (130 + b') (nI (3 + k)), upd W' (130 + b') 0, ?_, by omega, fun j hj => ?_⟩
      · show f_X11_operand_e (g_X11_either n) (mT m i (-1) (nI o) b A W) = _
        rw [eM _ m b A W hT, e1, o_bs]
        unfold oj_pf
        rw [o_bs, mT_18, mT_w18]
        unfold f_X11_operand_B80
        rw [m_step (by omega) (by omega), o_bs]
      · exact ⟨(if_neg (by omega)).trans (e3 j hj).1, (if_neg (by omega)).trans (e3 j hj).2⟩
  | some t1' =>
    obtain ⟨w4, w5, w6⟩ := w3 t1' rfl
    refine ⟨i1, some (t1' ++ [t]), WR_some (by omega) w2 (by rw [List.length_append]; show i + (t1'.length + 1) ≤ i1; omega) (fun d => by rw [tk_app, w5 d]; exact tk_one t3 t4 t5 d) (fun x hx => ?_), fun n hn => ?_, fun n hn => ?_⟩
    · rcases List.mem_append.mp hx with hx | hx
      · exact w6 x hx
      · rw [List.mem_singleton.mp hx]
        exact ⟨3 + k, by omega, t1⟩
    · obtain ⟨n, rfl, hn⟩ := n_succ hn
      refine CX_some fun m b g hT hb => ?_
      show f_X2_readSingle_e (g_X2_readLevel n) (nI o) (xT m i b g) = _
      rw [eX _ m b g hT, CX_s (hX n (by omega)) hT (by omega), o_bs, if_neg i10]
      unfold f_X2_readSingle_B121
      rw [x_emit (by omega), o_bs, ap_app, ap_one, List.length_append]
      rfl
    · obtain ⟨n, rfl, hn⟩ := n_succ hn
      refine CM_some fun m b A W hT hb => ?_
      show f_X11_operand_e (g_X11_either n) (mT m i (-1) (nI o) b A W) = _
      rw [eM _ m b A W hT, CM_s (hM n (by omega)) hT (by omega), o_bs]
      unfold oj_pf
      rw [o_bs, mT_18, nI_m1 (by omega), mT_w18]
      unfold f_X11_operand_B80
      rw [m_step (by omega) (by omega), o_bs, List.map_append, List.map_append, ap_app, ap_app, List.length_append, List.length_map, List.length_map]
      show _ = some ((), mT m i1 (-1) (nI o) (b + (t1'.length + 1)) (upd _ (130 + b + t1'.length) (mt_A t)) (upd _ (130 + b + t1'.length) (mw t)))
      rw [t1, t2, Nat.add_assoc 130]
      rfl
