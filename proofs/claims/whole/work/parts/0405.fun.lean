def f_X4_lead  (m : ej_M) : Option (Unit × ej_M) :=
  (oj_pf m 6 6 ((m.1 6 6) + 1)).bind fun m1 =>
  (f_X4_isLawful 8 (m1.1 6 4) m1).bind fun q2 =>
  if q2.1 = 0 then
    (oj_pf q2.2 6 7 ((q2.2.1 6 7) + 1)).bind fun m3 =>
    some ((), m3)
  else
    some ((), q2.2)
set_option maxHeartbeats 4000000 in
set_option maxRecDepth 100000 in
theorem b_X4_lead (e : Nat) (hd : 4 ≤ e)  (m : ej_M) {x : (Unit × ej_M)} {res : Option Value × ej_H} {K : (Unit × ej_M) → Prop} (hf : f_X4_lead  m = some x) (hK : K x) (h0 : ∀ q : (Unit × ej_M), K q → res = (none, (ej_sh, q.2))) : ej_Z cX4_lead 1 none RX4 "lead" (e + 1) 0 [(0, .ref 6)] [] (ej_sh, m) res := by
  unfold f_X4_lead at hf
  refine z_aload_n (pc := 0) (i := 0) (j := 0) dX4_lead_0 rfl rfl ?_
  refine z_dup (pc := 1) dX4_lead_1 rfl ?_
  refine z_ogetI (pc := 2) dX4_lead_2 lf_RX4_92 sh_6 rfl rfl ?_
  refine z_iconst (pc := 5) dX4_lead_5 ki_1 ?_
  refine z_iadd (pc := 6) dX4_lead_6 ?_
  obtain ⟨m1, hm1, hf⟩ := Option.bind_eq_some_iff.mp hf
  refine z_oputI (pc := 7) dX4_lead_7 lf_RX4_92 sh_6 rfl hm1 ?_
  refine z_aload_n (pc := 10) (i := 0) (j := 0) dX4_lead_10 rfl rfl ?_
  refine z_aload_n (pc := 11) (i := 0) (j := 0) dX4_lead_11 rfl rfl ?_
  refine z_ogetR (pc := 12) dX4_lead_12 lf_RX4_15 sh_6 rfl rfl rfl ?_
  refine z_aload_n (pc := 15) (i := 0) (j := 0) dX4_lead_15 rfl rfl ?_
  refine z_ogetI (pc := 16) dX4_lead_16 lf_RX4_43 sh_6 rfl rfl ?_
  obtain ⟨q2, hq2, hf⟩ := Option.bind_eq_some_iff.mp hf
  refine z_oVi (pc := 19) (as := [.ref 8, .int (m1.1 6 4)]) (rest := []) dX4_lead_19 lm_RX4_95 mf_X4_isLawful mi_X4_isLawful mv_X4_isLawful rc_6 rfl rfl (Nat.le_of_ble_eq_true rfl) (c_X4_isLawful e (by omega) 8 (m1.1 6 4) m1 hq2) ?_
  refine z_if_ne (pc := 22) (tgt := 35) dX4_lead_22 (by decide) (fun hc => ?_) (fun hc => ?_)
  · rw [if_neg hc] at hf
    obtain rfl := Option.some.inj hf
    rw [h0 _ hK]
    exact z_ret dX4_lead_35 rfl
  · rw [if_pos hc] at hf
    refine z_aload_n (pc := 25) (i := 0) (j := 0) dX4_lead_25 rfl rfl ?_
    refine z_dup (pc := 26) dX4_lead_26 rfl ?_
    refine z_ogetI (pc := 27) dX4_lead_27 lf_RX4_99 sh_6 rfl rfl ?_
    refine z_iconst (pc := 30) dX4_lead_30 ki_1 ?_
    refine z_iadd (pc := 31) dX4_lead_31 ?_
    obtain ⟨m3, hm3, hf⟩ := Option.bind_eq_some_iff.mp hf
    refine z_oputI (pc := 32) dX4_lead_32 lf_RX4_99 sh_6 rfl hm3 ?_
    obtain rfl := Option.some.inj hf
    rw [h0 _ hK]
    exact z_ret dX4_lead_35 rfl
set_option maxHeartbeats 4000000 in
set_option maxRecDepth 100000 in
theorem c_X4_lead (d : Nat) (hd : 5 ≤ d)  (m : ej_M) {q : (Unit × ej_M)} (hf : f_X4_lead  m = some q) : ej_Ct yX4_lead cX4_lead 1 none d [.ref 6] (ej_sh, m) ((none, (ej_sh, q.2)) : Option Value × ej_H) := by
  obtain ⟨e, rfl⟩ : ∃ e, d = e + 1 := ⟨d - 1, by omega⟩
  exact z_met (by decide +kernel) (Nat.le_of_ble_eq_true rfl) (b_X4_lead e (by omega)  m (K := fun z => ((none, (ej_sh, q.2)) : Option Value × ej_H) = (none, (ej_sh, z.2))) hf rfl (fun _ h => h))
def f_X10_set (v1 : Int32) (v2 : Int32) (m : ej_M) : Option (Int32 × ej_M) :=
  (f_X4_has v1 m).bind fun q1 =>
  if q1.1 = 0 then
    some ((-1), q1.2)
  else
    if v2 < 0 then
      some ((-1), q1.2)
    else
      if v2 ≤ (q1.2.1 6 4) then
        (f_X4_placeOf v1 q1.2).bind fun q2 =>
        if q2.1 = (-2) then
          (f_X10_insert 8 (q2.2.1 6 4) v2 v1 q2.2).bind fun q3 =>
          (oj_pf q3.2 6 4 ((q3.2.1 6 4) + 1)).bind fun m4 =>
          (f_X4_lead m4).bind fun q5 =>
          some ((q5.2.1 6 4), q5.2)
        else
          some ((-5), q2.2)
      else
        some ((-1), q1.2)
set_option maxHeartbeats 4000000 in
set_option maxRecDepth 100000 in
theorem b_X10_set (e : Nat) (hd : 5 ≤ e) (v1 : Int32) (v2 : Int32) (m : ej_M) {x : (Int32 × ej_M)} {res : Option Value × ej_H} {K : (Int32 × ej_M) → Prop} (hf : f_X10_set v1 v2 m = some x) (hK : K x) (h0 : ∀ q : (Int32 × ej_M), K q → res = (some (Value.int q.1), (ej_sh, q.2))) : ej_Z cX10_set 3 (some .int) RX10 "set" (e + 1) 0 [(0, .ref 0), (1, .int v1), (2, .int v2)] [] (ej_sh, m) res := by
  unfold f_X10_set at hf
  refine z_aload_n (pc := 0) (i := 0) (j := 0) dX10_set_0 rfl rfl ?_
  refine z_ogetR (pc := 1) dX10_set_1 lf_RX10_21 sh_0 rfl rfl rfl ?_
  refine z_iload_n (pc := 4) (i := 1) (j := 1) dX10_set_4 rfl rfl ?_
  obtain ⟨q1, hq1, hf⟩ := Option.bind_eq_some_iff.mp hf
  refine z_oVi (pc := 5) (as := [.int v1]) (rest := []) dX10_set_5 lm_RX10_101 mf_X4_has mi_X4_has mv_X4_has rc_6 rfl rfl (Nat.le_of_ble_eq_true rfl) (c_X4_has e (by omega) v1 m hq1) ?_
  refine z_if_eq (pc := 8) (tgt := 26) dX10_set_8 (by decide) (fun hc => ?_) (fun hc => ?_)
  · rw [if_pos hc] at hf
    refine z_iconst (pc := 26) dX10_set_26 ki_n1 ?_
    obtain rfl := Option.some.inj hf
    rw [h0 _ hK]
    exact z_iret dX10_set_27 rfl rfl
  · rw [if_neg hc] at hf
    refine z_iload_n (pc := 11) (i := 2) (j := 2) dX10_set_11 rfl rfl ?_
    refine z_if_lt (pc := 12) (tgt := 26) dX10_set_12 (by decide) (fun hc => ?_) (fun hc => ?_)
    · rw [if_pos hc] at hf
      refine z_iconst (pc := 26) dX10_set_26 ki_n1 ?_
      obtain rfl := Option.some.inj hf
      rw [h0 _ hK]
      exact z_iret dX10_set_27 rfl rfl
    · rw [if_neg hc] at hf
      refine z_iload_n (pc := 15) (i := 2) (j := 2) dX10_set_15 rfl rfl ?_
      refine z_aload_n (pc := 16) (i := 0) (j := 0) dX10_set_16 rfl rfl ?_
      refine z_ogetR (pc := 17) dX10_set_17 lf_RX10_21 sh_0 rfl rfl rfl ?_
      refine z_ogetI (pc := 20) dX10_set_20 lf_RX10_136 sh_6 rfl rfl ?_
      refine z_icmp_le (pc := 23) (tgt := 28) dX10_set_23 (by decide) (fun hc => ?_) (fun hc => ?_)
      · rw [if_pos hc] at hf
        refine z_aload_n (pc := 28) (i := 0) (j := 0) dX10_set_28 rfl rfl ?_
        refine z_ogetR (pc := 29) dX10_set_29 lf_RX10_21 sh_0 rfl rfl rfl ?_
        refine z_iload_n (pc := 32) (i := 1) (j := 1) dX10_set_32 rfl rfl ?_
        obtain ⟨q2, hq2, hf⟩ := Option.bind_eq_some_iff.mp hf
        refine z_oVi (pc := 33) (as := [.int v1]) (rest := []) dX10_set_33 lm_RX10_112 mf_X4_placeOf mi_X4_placeOf mv_X4_placeOf rc_6 rfl rfl (Nat.le_of_ble_eq_true rfl) (c_X4_placeOf e (by omega) v1 q1.2 hq2) ?_
        refine z_bipush (pc := 36) dX10_set_36 kb_n2 ?_
        refine z_icmp_eq (pc := 38) (tgt := 44) dX10_set_38 (by decide) (fun hc => ?_) (fun hc => ?_)
        · rw [if_pos hc] at hf
          refine z_aload_n (pc := 44) (i := 0) (j := 0) dX10_set_44 rfl rfl ?_
          refine z_ogetR (pc := 45) dX10_set_45 lf_RX10_21 sh_0 rfl rfl rfl ?_
          refine z_ogetR (pc := 48) dX10_set_48 lf_RX10_121 sh_6 rfl rfl rfl ?_
          refine z_aload_n (pc := 51) (i := 0) (j := 0) dX10_set_51 rfl rfl ?_
          refine z_ogetR (pc := 52) dX10_set_52 lf_RX10_21 sh_0 rfl rfl rfl ?_
          refine z_ogetI (pc := 55) dX10_set_55 lf_RX10_136 sh_6 rfl rfl ?_
          refine z_iload_n (pc := 58) (i := 2) (j := 2) dX10_set_58 rfl rfl ?_
          refine z_iload_n (pc := 59) (i := 1) (j := 1) dX10_set_59 rfl rfl ?_
          obtain ⟨q3, hq3, hf⟩ := Option.bind_eq_some_iff.mp hf
          refine z_oSv (pc := 60) (as := [.ref 8, .int (q2.2.1 6 4), .int v2, .int v1]) (rest := []) dX10_set_60 lm_RX10_159 mf_X10_insert ms_X10_insert rfl rfl (Nat.le_of_ble_eq_true rfl) (c_X10_insert e (by omega) 8 (q2.2.1 6 4) v2 v1 q2.2 hq3) ?_
          refine z_aload_n (pc := 63) (i := 0) (j := 0) dX10_set_63 rfl rfl ?_
          refine z_ogetR (pc := 64) dX10_set_64 lf_RX10_21 sh_0 rfl rfl rfl ?_
          refine z_dup (pc := 67) dX10_set_67 rfl ?_
          refine z_ogetI (pc := 68) dX10_set_68 lf_RX10_136 sh_6 rfl rfl ?_
          refine z_iconst (pc := 71) dX10_set_71 ki_1 ?_
          refine z_iadd (pc := 72) dX10_set_72 ?_
          obtain ⟨m4, hm4, hf⟩ := Option.bind_eq_some_iff.mp hf
          refine z_oputI (pc := 73) dX10_set_73 lf_RX10_136 sh_6 rfl hm4 ?_
          refine z_aload_n (pc := 76) (i := 0) (j := 0) dX10_set_76 rfl rfl ?_
          refine z_ogetR (pc := 77) dX10_set_77 lf_RX10_21 sh_0 rfl rfl rfl ?_
          obtain ⟨q5, hq5, hf⟩ := Option.bind_eq_some_iff.mp hf
          refine z_oVv (pc := 80) (as := []) (rest := []) dX10_set_80 lm_RX10_163 mf_X4_lead mi_X4_lead mv_X4_lead rc_6 rfl rfl (Nat.le_of_ble_eq_true rfl) (c_X4_lead e (by omega) m4 hq5) ?_
          refine z_aload_n (pc := 83) (i := 0) (j := 0) dX10_set_83 rfl rfl ?_
          refine z_ogetR (pc := 84) dX10_set_84 lf_RX10_21 sh_0 rfl rfl rfl ?_
          refine z_ogetI (pc := 87) dX10_set_87 lf_RX10_136 sh_6 rfl rfl ?_
          obtain rfl := Option.some.inj hf
          rw [h0 _ hK]
          exact z_iret dX10_set_90 rfl rfl
        · rw [if_neg hc] at hf
          refine z_bipush (pc := 41) dX10_set_41 kb_n5 ?_
          obtain rfl := Option.some.inj hf
          rw [h0 _ hK]
          exact z_iret dX10_set_43 rfl rfl
      · rw [if_neg hc] at hf
        refine z_iconst (pc := 26) dX10_set_26 ki_n1 ?_
        obtain rfl := Option.some.inj hf
        rw [h0 _ hK]
        exact z_iret dX10_set_27 rfl rfl
set_option maxHeartbeats 4000000 in
set_option maxRecDepth 100000 in
theorem c_X10_set (d : Nat) (hd : 6 ≤ d) (v1 : Int32) (v2 : Int32) (m : ej_M) {q : (Int32 × ej_M)} (hf : f_X10_set v1 v2 m = some q) : ej_Ct yX10_set cX10_set 3 (some .int) d [.ref 0, .int v1, .int v2] (ej_sh, m) ((some (Value.int q.1), (ej_sh, q.2)) : Option Value × ej_H) := by
  obtain ⟨e, rfl⟩ : ∃ e, d = e + 1 := ⟨d - 1, by omega⟩
  exact z_met (by decide +kernel) (Nat.le_of_ble_eq_true rfl) (b_X10_set e (by omega) v1 v2 m (K := fun z => ((some (Value.int q.1), (ej_sh, q.2)) : Option Value × ej_H) = (some (Value.int z.1), (ej_sh, z.2))) hf rfl (fun _ h => h))
def f_X11_lead  (m : ej_M) : Option (Unit × ej_M) :=
  (oj_pf m 41 6 ((m.1 41 6) + 1)).bind fun m1 =>
  (f_X11_isRowLawful m1).bind fun q2 =>
  if q2.1 = 0 then
    (oj_pf q2.2 41 7 ((q2.2.1 41 7) + 1)).bind fun m3 =>
    some ((), m3)
  else
    some ((), q2.2)
set_option maxHeartbeats 4000000 in
set_option maxRecDepth 100000 in
theorem b_X11_lead (e : Nat) (hd : 5 ≤ e)  (m : ej_M) {x : (Unit × ej_M)} {res : Option Value × ej_H} {K : (Unit × ej_M) → Prop} (hf : f_X11_lead  m = some x) (hK : K x) (h0 : ∀ q : (Unit × ej_M), K q → res = (none, (ej_sh, q.2))) : ej_Z cX11_lead 1 none RX11 "lead" (e + 1) 0 [(0, .ref 41)] [] (ej_sh, m) res := by
  unfold f_X11_lead at hf
  refine z_aload_n (pc := 0) (i := 0) (j := 0) dX11_lead_0 rfl rfl ?_
  refine z_dup (pc := 1) dX11_lead_1 rfl ?_
  refine z_ogetI (pc := 2) dX11_lead_2 lf_RX11_242 sh_41 rfl rfl ?_
  refine z_iconst (pc := 5) dX11_lead_5 ki_1 ?_
  refine z_iadd (pc := 6) dX11_lead_6 ?_
  obtain ⟨m1, hm1, hf⟩ := Option.bind_eq_some_iff.mp hf
  refine z_oputI (pc := 7) dX11_lead_7 lf_RX11_242 sh_41 rfl hm1 ?_
  refine z_aload_n (pc := 10) (i := 0) (j := 0) dX11_lead_10 rfl rfl ?_
  obtain ⟨q2, hq2, hf⟩ := Option.bind_eq_some_iff.mp hf
  refine z_oVi (pc := 11) (as := []) (rest := []) dX11_lead_11 lm_RX11_239 mf_X11_isRowLawful mi_X11_isRowLawful mv_X11_isRowLawful rc_41 rfl rfl (Nat.le_of_ble_eq_true rfl) (c_X11_isRowLawful e (by omega) m1 hq2) ?_
  refine z_if_ne (pc := 14) (tgt := 27) dX11_lead_14 (by decide) (fun hc => ?_) (fun hc => ?_)
  · rw [if_neg hc] at hf
    obtain rfl := Option.some.inj hf
    rw [h0 _ hK]
    exact z_ret dX11_lead_27 rfl
  · rw [if_pos hc] at hf
    refine z_aload_n (pc := 17) (i := 0) (j := 0) dX11_lead_17 rfl rfl ?_
    refine z_dup (pc := 18) dX11_lead_18 rfl ?_
    refine z_ogetI (pc := 19) dX11_lead_19 lf_RX11_245 sh_41 rfl rfl ?_
    refine z_iconst (pc := 22) dX11_lead_22 ki_1 ?_
    refine z_iadd (pc := 23) dX11_lead_23 ?_
    obtain ⟨m3, hm3, hf⟩ := Option.bind_eq_some_iff.mp hf
    refine z_oputI (pc := 24) dX11_lead_24 lf_RX11_245 sh_41 rfl hm3 ?_
    obtain rfl := Option.some.inj hf
    rw [h0 _ hK]
    exact z_ret dX11_lead_27 rfl
set_option maxHeartbeats 4000000 in
set_option maxRecDepth 100000 in
theorem c_X11_lead (d : Nat) (hd : 6 ≤ d)  (m : ej_M) {q : (Unit × ej_M)} (hf : f_X11_lead  m = some q) : ej_Ct yX11_lead cX11_lead 1 none d [.ref 41] (ej_sh, m) ((none, (ej_sh, q.2)) : Option Value × ej_H) := by
  obtain ⟨e, rfl⟩ : ∃ e, d = e + 1 := ⟨d - 1, by omega⟩
  exact z_met (by decide +kernel) (Nat.le_of_ble_eq_true rfl) (b_X11_lead e (by omega)  m (K := fun z => ((none, (ej_sh, q.2)) : Option Value × ej_H) = (none, (ej_sh, z.2))) hf rfl (fun _ h => h))
def f_X11_set_L38b (v1 : Int32) (v2 : Int32) (v3 : Int32) (m : ej_M) : Option ((Int32 × ej_M) ⊕ (Int32 × ej_M)) :=
  if v3 ≤ v2 then
    (oj_st 0 m 43 v2 v1).bind fun m1 =>
    (oj_pf m1 41 4 ((m1.1 41 4) + 1)).bind fun m2 =>
    (f_X11_lead m2).bind fun q3 =>
    some (Sum.inr ((q3.2.1 41 4), q3.2))
  else
    (oj_ld 0 m 43 (v3 - 1)).bind fun w4 =>
    (oj_st 0 m 43 v3 w4).bind fun m5 =>
    some (Sum.inl ((v3 + (-1)), m5))
set_option maxHeartbeats 4000000 in
set_option maxRecDepth 100000 in
theorem b_X11_set_L38b (e : Nat) (hd : 6 ≤ e) (v1 : Int32) (v2 : Int32) (v3 : Int32) (m : ej_M) {x : ((Int32 × ej_M) ⊕ (Int32 × ej_M))} {res : Option Value × ej_H} {K : ((Int32 × ej_M) ⊕ (Int32 × ej_M)) → Prop} (hf : f_X11_set_L38b v1 v2 v3 m = some x) (hK : K x) (h1 : ∀ q : (Int32 × ej_M), K (Sum.inl q) → ej_Z cX11_set 4 (some .int) RX11 "set" (e + 1) 38 [(0, .ref 41), (1, .int v1), (2, .int v2), (3, .int q.1)] [] (ej_sh, q.2) res) (h0 : ∀ q : (Int32 × ej_M), K (Sum.inr q) → res = (some (Value.int q.1), (ej_sh, q.2))) : ej_Z cX11_set 4 (some .int) RX11 "set" (e + 1) 38 [(0, .ref 41), (1, .int v1), (2, .int v2), (3, .int v3)] [] (ej_sh, m) res := by
  unfold f_X11_set_L38b at hf
  refine z_iload_n (pc := 38) (i := 3) (j := 3) dX11_set_38 rfl rfl ?_
  refine z_iload_n (pc := 39) (i := 2) (j := 2) dX11_set_39 rfl rfl ?_
  refine z_icmp_le (pc := 40) (tgt := 63) dX11_set_40 (by decide) (fun hc => ?_) (fun hc => ?_)
  · rw [if_pos hc] at hf
    refine z_aload_n (pc := 63) (i := 0) (j := 0) dX11_set_63 rfl rfl ?_
    refine z_ogetR (pc := 64) dX11_set_64 lf_RX11_13 sh_41 rfl rfl rfl ?_
    refine z_iload_n (pc := 67) (i := 2) (j := 2) dX11_set_67 rfl rfl ?_
    refine z_iload_n (pc := 68) (i := 1) (j := 1) dX11_set_68 rfl rfl ?_
    obtain ⟨m1, hm1, hf⟩ := Option.bind_eq_some_iff.mp hf
    refine z_oiast (pc := 69) dX11_set_69 hm1 ?_
    refine z_aload_n (pc := 70) (i := 0) (j := 0) dX11_set_70 rfl rfl ?_
    refine z_dup (pc := 71) dX11_set_71 rfl ?_
    refine z_ogetI (pc := 72) dX11_set_72 lf_RX11_108 sh_41 rfl rfl ?_
    refine z_iconst (pc := 75) dX11_set_75 ki_1 ?_
    refine z_iadd (pc := 76) dX11_set_76 ?_
    obtain ⟨m2, hm2, hf⟩ := Option.bind_eq_some_iff.mp hf
    refine z_oputI (pc := 77) dX11_set_77 lf_RX11_108 sh_41 rfl hm2 ?_
    refine z_aload_n (pc := 80) (i := 0) (j := 0) dX11_set_80 rfl rfl ?_
    obtain ⟨q3, hq3, hf⟩ := Option.bind_eq_some_iff.mp hf
    refine z_oVv (pc := 81) (as := []) (rest := []) dX11_set_81 lm_RX11_248 mf_X11_lead mi_X11_lead mv_X11_lead rc_41 rfl rfl (Nat.le_of_ble_eq_true rfl) (c_X11_lead e (by omega) m2 hq3) ?_
    refine z_aload_n (pc := 84) (i := 0) (j := 0) dX11_set_84 rfl rfl ?_
    refine z_ogetI (pc := 85) dX11_set_85 lf_RX11_108 sh_41 rfl rfl ?_
    obtain rfl := Option.some.inj hf
    rw [h0 _ hK]
    exact z_iret dX11_set_88 rfl rfl
  · rw [if_neg hc] at hf
    refine z_aload_n (pc := 43) (i := 0) (j := 0) dX11_set_43 rfl rfl ?_
    refine z_ogetR (pc := 44) dX11_set_44 lf_RX11_13 sh_41 rfl rfl rfl ?_
    refine z_iload_n (pc := 47) (i := 3) (j := 3) dX11_set_47 rfl rfl ?_
    refine z_aload_n (pc := 48) (i := 0) (j := 0) dX11_set_48 rfl rfl ?_
    refine z_ogetR (pc := 49) dX11_set_49 lf_RX11_13 sh_41 rfl rfl rfl ?_
    refine z_iload_n (pc := 52) (i := 3) (j := 3) dX11_set_52 rfl rfl ?_
    refine z_iconst (pc := 53) dX11_set_53 ki_1 ?_
    refine z_isub (pc := 54) dX11_set_54 ?_
    obtain ⟨w4, hw4, hf⟩ := Option.bind_eq_some_iff.mp hf
    refine z_oiald (pc := 55) dX11_set_55 hw4 ?_
    obtain ⟨m5, hm5, hf⟩ := Option.bind_eq_some_iff.mp hf
    refine z_oiast (pc := 56) dX11_set_56 hm5 ?_
    refine z_iinc (pc := 57) (j := 3) (ls' := [(3, .int (v3 + (-1))), (0, .ref 41), (1, .int v1), (2, .int v2)]) dX11_set_57 rfl ki_n1 (Nat.le_of_ble_eq_true rfl) rfl ?_
    refine z_goto (pc := 60) (tgt := 38) dX11_set_60 (by decide) ?_
    obtain rfl := Option.some.inj hf
    exact z_pick (ls' := [(0, .ref 41), (1, .int v1), (2, .int v2), (3, .int (v3 + (-1)))]) [1, 2, 3, 0] rfl (h1 ((v3 + (-1)), m5) hK)
def f_X11_set_L38 (v1 : Int32) (v2 : Int32) (v3 : Int32) (m : ej_M) : Option (Int32 × ej_M) := oj_loop (fun q : (Int32 × ej_M) => f_X11_set_L38b v1 v2 q.1 q.2) oj_FU (v3, m)
set_option maxHeartbeats 4000000 in
set_option maxRecDepth 100000 in
theorem b_X11_set_L38 (e : Nat) (hd : 6 ≤ e) (v1 : Int32) (v2 : Int32) (v3 : Int32) (m : ej_M) {x : (Int32 × ej_M)} {res : Option Value × ej_H} {K : (Int32 × ej_M) → Prop} (hf : f_X11_set_L38 v1 v2 v3 m = some x) (hK : K x) (h0 : ∀ q : (Int32 × ej_M), K q → res = (some (Value.int q.1), (ej_sh, q.2))) : ej_Z cX11_set 4 (some .int) RX11 "set" (e + 1) 38 [(0, .ref 41), (1, .int v1), (2, .int v2), (3, .int v3)] [] (ej_sh, m) res :=
  oj_loop_Z (body := fun q : (Int32 × ej_M) => f_X11_set_L38b v1 v2 q.1 q.2) (P := fun q : (Int32 × ej_M) => ej_Z cX11_set 4 (some .int) RX11 "set" (e + 1) 38 [(0, .ref 41), (1, .int v1), (2, .int v2), (3, .int q.1)] [] (ej_sh, q.2) res) (K := K) (fun s x hb hl hr => b_X11_set_L38b e hd v1 v2  s.1 s.2 (K := fun x => (∀ s' : (Int32 × ej_M), x = Sum.inl s' → ej_Z cX11_set 4 (some .int) RX11 "set" (e + 1) 38 [(0, .ref 41), (1, .int v1), (2, .int v2), (3, .int s'.1)] [] (ej_sh, s'.2) res) ∧ ∀ e, x = Sum.inr e → K e) hb ⟨hl, hr⟩ (fun q hq => hq.1 q rfl) (fun q hq => h0 q (hq.2 _ rfl))) oj_FU (v3, m) x hf hK
def f_X11_set (v1 : Int32) (v2 : Int32) (m : ej_M) : Option (Int32 × ej_M) :=
  (f_X11_isStone v1 m).bind fun q1 =>
  if q1.1 = 0 then
    some ((-1), q1.2)
  else
    (f_X11_in v2 0 (q1.2.1 41 4) q1.2).bind fun q2 =>
    if q2.1 = 0 then
      some ((-1), q2.2)
    else
      (f_X11_placeOf v1 q2.2).bind fun q3 =>
      if q3.1 < 0 then
        f_X11_set_L38 v1 v2 (q3.2.1 41 4) q3.2
      else
        some ((-5), q3.2)
set_option maxHeartbeats 4000000 in
set_option maxRecDepth 100000 in
theorem b_X11_set (e : Nat) (hd : 6 ≤ e) (v1 : Int32) (v2 : Int32) (m : ej_M) {x : (Int32 × ej_M)} {res : Option Value × ej_H} {K : (Int32 × ej_M) → Prop} (hf : f_X11_set v1 v2 m = some x) (hK : K x) (h0 : ∀ q : (Int32 × ej_M), K q → res = (some (Value.int q.1), (ej_sh, q.2))) : ej_Z cX11_set 4 (some .int) RX11 "set" (e + 1) 0 [(0, .ref 41), (1, .int v1), (2, .int v2)] [] (ej_sh, m) res := by
  unfold f_X11_set at hf
  refine z_aload_n (pc := 0) (i := 0) (j := 0) dX11_set_0 rfl rfl ?_
  refine z_iload_n (pc := 1) (i := 1) (j := 1) dX11_set_1 rfl rfl ?_
  obtain ⟨q1, hq1, hf⟩ := Option.bind_eq_some_iff.mp hf
  refine z_oVi (pc := 2) (as := [.int v1]) (rest := []) dX11_set_2 lm_RX11_136 mf_X11_isStone mi_X11_isStone mv_X11_isStone rc_41 rfl rfl (Nat.le_of_ble_eq_true rfl) (c_X11_isStone e (by omega) v1 m hq1) ?_
  refine z_if_eq (pc := 5) (tgt := 20) dX11_set_5 (by decide) (fun hc => ?_) (fun hc => ?_)
  · rw [if_pos hc] at hf
    refine z_iconst (pc := 20) dX11_set_20 ki_n1 ?_
    obtain rfl := Option.some.inj hf
    rw [h0 _ hK]
    exact z_iret dX11_set_21 rfl rfl
  · rw [if_neg hc] at hf
    refine z_iload_n (pc := 8) (i := 2) (j := 2) dX11_set_8 rfl rfl ?_
    refine z_iconst (pc := 9) dX11_set_9 ki_0 ?_
    refine z_aload_n (pc := 10) (i := 0) (j := 0) dX11_set_10 rfl rfl ?_
    refine z_ogetI (pc := 11) dX11_set_11 lf_RX11_108 sh_41 rfl rfl ?_
    obtain ⟨q2, hq2, hf⟩ := Option.bind_eq_some_iff.mp hf
    refine z_oSi (pc := 14) (as := [.int v2, .int 0, .int (q1.2.1 41 4)]) (rest := []) dX11_set_14 lm_RX11_104 mf_X11_in ms_X11_in rfl rfl (Nat.le_of_ble_eq_true rfl) (c_X11_in e (by omega) v2 0 (q1.2.1 41 4) q1.2 hq2) ?_
    refine z_if_ne (pc := 17) (tgt := 22) dX11_set_17 (by decide) (fun hc => ?_) (fun hc => ?_)
    · rw [if_neg hc] at hf
      refine z_aload_n (pc := 22) (i := 0) (j := 0) dX11_set_22 rfl rfl ?_
      refine z_iload_n (pc := 23) (i := 1) (j := 1) dX11_set_23 rfl rfl ?_
      obtain ⟨q3, hq3, hf⟩ := Option.bind_eq_some_iff.mp hf
      refine z_oVi (pc := 24) (as := [.int v1]) (rest := []) dX11_set_24 lm_RX11_233 mf_X11_placeOf mi_X11_placeOf mv_X11_placeOf rc_41 rfl rfl (Nat.le_of_ble_eq_true rfl) (c_X11_placeOf e (by omega) v1 q2.2 hq3) ?_
      refine z_if_lt (pc := 27) (tgt := 33) dX11_set_27 (by decide) (fun hc => ?_) (fun hc => ?_)
      · rw [if_pos hc] at hf
        refine z_aload_n (pc := 33) (i := 0) (j := 0) dX11_set_33 rfl rfl ?_
        refine z_ogetI (pc := 34) dX11_set_34 lf_RX11_108 sh_41 rfl rfl ?_
        refine z_istore_n (pc := 37) (i := 3) (ls' := [(3, .int (q3.2.1 41 4)), (0, .ref 41), (1, .int v1), (2, .int v2)]) dX11_set_37 rfl (Nat.le_of_ble_eq_true rfl) rfl ?_
        exact z_pick [1, 2, 3, 0] rfl (b_X11_set_L38 e hd v1 v2 (q3.2.1 41 4) q3.2 (K := K) hf hK  h0)
      · rw [if_neg hc] at hf
        refine z_bipush (pc := 30) dX11_set_30 kb_n5 ?_
        obtain rfl := Option.some.inj hf
        rw [h0 _ hK]
        exact z_iret dX11_set_32 rfl rfl
    · rw [if_pos hc] at hf
      refine z_iconst (pc := 20) dX11_set_20 ki_n1 ?_
      obtain rfl := Option.some.inj hf
      rw [h0 _ hK]
      exact z_iret dX11_set_21 rfl rfl
set_option maxHeartbeats 4000000 in
set_option maxRecDepth 100000 in
theorem c_X11_set (d : Nat) (hd : 7 ≤ d) (v1 : Int32) (v2 : Int32) (m : ej_M) {q : (Int32 × ej_M)} (hf : f_X11_set v1 v2 m = some q) : ej_Ct yX11_set cX11_set 4 (some .int) d [.ref 41, .int v1, .int v2] (ej_sh, m) ((some (Value.int q.1), (ej_sh, q.2)) : Option Value × ej_H) := by
  obtain ⟨e, rfl⟩ : ∃ e, d = e + 1 := ⟨d - 1, by omega⟩
  exact z_met (by decide +kernel) (Nat.le_of_ble_eq_true rfl) (b_X11_set e (by omega) v1 v2 m (K := fun z => ((some (Value.int q.1), (ej_sh, q.2)) : Option Value × ej_H) = (some (Value.int z.1), (ej_sh, z.2))) hf rfl (fun _ h => h))
def f_X10_take (v1 : Int32) (m : ej_M) : Option (Int32 × ej_M) :=
  (f_X4_isPlace v1 m).bind fun q1 =>
  if q1.1 = 0 then
    some ((-1), q1.2)
  else
    (f_X10_at 8 v1 q1.2).bind fun q2 =>
    (f_X10_remove 8 (q2.2.1 6 4) v1 q2.2).bind fun q3 =>
    (oj_pf q3.2 6 4 ((q3.2.1 6 4) - 1)).bind fun m4 =>
    (f_X4_lead m4).bind fun q5 =>
    some (q2.1, q5.2)
set_option maxHeartbeats 4000000 in
set_option maxRecDepth 100000 in
theorem b_X10_take (e : Nat) (hd : 5 ≤ e) (v1 : Int32) (m : ej_M) {x : (Int32 × ej_M)} {res : Option Value × ej_H} {K : (Int32 × ej_M) → Prop} (hf : f_X10_take v1 m = some x) (hK : K x) (h0 : ∀ q : (Int32 × ej_M), K q → res = (some (Value.int q.1), (ej_sh, q.2))) : ej_Z cX10_take 3 (some .int) RX10 "take" (e + 1) 0 [(0, .ref 0), (1, .int v1)] [] (ej_sh, m) res := by
  unfold f_X10_take at hf
  refine z_aload_n (pc := 0) (i := 0) (j := 0) dX10_take_0 rfl rfl ?_
  refine z_ogetR (pc := 1) dX10_take_1 lf_RX10_21 sh_0 rfl rfl rfl ?_
  refine z_iload_n (pc := 4) (i := 1) (j := 1) dX10_take_4 rfl rfl ?_
  obtain ⟨q1, hq1, hf⟩ := Option.bind_eq_some_iff.mp hf
  refine z_oVi (pc := 5) (as := [.int v1]) (rest := []) dX10_take_5 lm_RX10_118 mf_X4_isPlace mi_X4_isPlace mv_X4_isPlace rc_6 rfl rfl (Nat.le_of_ble_eq_true rfl) (c_X4_isPlace e (by omega) v1 m hq1) ?_
  refine z_if_ne (pc := 8) (tgt := 13) dX10_take_8 (by decide) (fun hc => ?_) (fun hc => ?_)
  · rw [if_neg hc] at hf
    refine z_aload_n (pc := 13) (i := 0) (j := 0) dX10_take_13 rfl rfl ?_
    refine z_ogetR (pc := 14) dX10_take_14 lf_RX10_21 sh_0 rfl rfl rfl ?_
    refine z_ogetR (pc := 17) dX10_take_17 lf_RX10_121 sh_6 rfl rfl rfl ?_
    refine z_iload_n (pc := 20) (i := 1) (j := 1) dX10_take_20 rfl rfl ?_
    obtain ⟨q2, hq2, hf⟩ := Option.bind_eq_some_iff.mp hf
    refine z_oSi (pc := 21) (as := [.ref 8, .int v1]) (rest := []) dX10_take_21 lm_RX10_125 mf_X10_at ms_X10_at rfl rfl (Nat.le_of_ble_eq_true rfl) (c_X10_at e (by omega) 8 v1 q1.2 hq2) ?_
    refine z_istore_n (pc := 24) (i := 2) (ls' := [(2, .int q2.1), (0, .ref 0), (1, .int v1)]) dX10_take_24 rfl (Nat.le_of_ble_eq_true rfl) rfl ?_
    refine z_aload_n (pc := 25) (i := 0) (j := 1) dX10_take_25 rfl rfl ?_
    refine z_ogetR (pc := 26) dX10_take_26 lf_RX10_21 sh_0 rfl rfl rfl ?_
    refine z_ogetR (pc := 29) dX10_take_29 lf_RX10_121 sh_6 rfl rfl rfl ?_
    refine z_aload_n (pc := 32) (i := 0) (j := 1) dX10_take_32 rfl rfl ?_
    refine z_ogetR (pc := 33) dX10_take_33 lf_RX10_21 sh_0 rfl rfl rfl ?_
    refine z_ogetI (pc := 36) dX10_take_36 lf_RX10_136 sh_6 rfl rfl ?_
    refine z_iload_n (pc := 39) (i := 1) (j := 2) dX10_take_39 rfl rfl ?_
    obtain ⟨q3, hq3, hf⟩ := Option.bind_eq_some_iff.mp hf
    refine z_oSv (pc := 40) (as := [.ref 8, .int (q2.2.1 6 4), .int v1]) (rest := []) dX10_take_40 lm_RX10_166 mf_X10_remove ms_X10_remove rfl rfl (Nat.le_of_ble_eq_true rfl) (c_X10_remove e (by omega) 8 (q2.2.1 6 4) v1 q2.2 hq3) ?_
    refine z_aload_n (pc := 43) (i := 0) (j := 1) dX10_take_43 rfl rfl ?_
    refine z_ogetR (pc := 44) dX10_take_44 lf_RX10_21 sh_0 rfl rfl rfl ?_
    refine z_dup (pc := 47) dX10_take_47 rfl ?_
    refine z_ogetI (pc := 48) dX10_take_48 lf_RX10_136 sh_6 rfl rfl ?_
    refine z_iconst (pc := 51) dX10_take_51 ki_1 ?_
    refine z_isub (pc := 52) dX10_take_52 ?_
    obtain ⟨m4, hm4, hf⟩ := Option.bind_eq_some_iff.mp hf
    refine z_oputI (pc := 53) dX10_take_53 lf_RX10_136 sh_6 rfl hm4 ?_
    refine z_aload_n (pc := 56) (i := 0) (j := 1) dX10_take_56 rfl rfl ?_
    refine z_ogetR (pc := 57) dX10_take_57 lf_RX10_21 sh_0 rfl rfl rfl ?_
    obtain ⟨q5, hq5, hf⟩ := Option.bind_eq_some_iff.mp hf
    refine z_oVv (pc := 60) (as := []) (rest := []) dX10_take_60 lm_RX10_163 mf_X4_lead mi_X4_lead mv_X4_lead rc_6 rfl rfl (Nat.le_of_ble_eq_true rfl) (c_X4_lead e (by omega) m4 hq5) ?_
    refine z_iload_n (pc := 63) (i := 2) (j := 0) dX10_take_63 rfl rfl ?_
    obtain rfl := Option.some.inj hf
    rw [h0 _ hK]
    exact z_iret dX10_take_64 rfl rfl
  · rw [if_pos hc] at hf
    refine z_iconst (pc := 11) dX10_take_11 ki_n1 ?_
    obtain rfl := Option.some.inj hf
    rw [h0 _ hK]
    exact z_iret dX10_take_12 rfl rfl
set_option maxHeartbeats 4000000 in
set_option maxRecDepth 100000 in
theorem c_X10_take (d : Nat) (hd : 6 ≤ d) (v1 : Int32) (m : ej_M) {q : (Int32 × ej_M)} (hf : f_X10_take v1 m = some q) : ej_Ct yX10_take cX10_take 3 (some .int) d [.ref 0, .int v1] (ej_sh, m) ((some (Value.int q.1), (ej_sh, q.2)) : Option Value × ej_H) := by
  obtain ⟨e, rfl⟩ : ∃ e, d = e + 1 := ⟨d - 1, by omega⟩
  exact z_met (by decide +kernel) (Nat.le_of_ble_eq_true rfl) (b_X10_take e (by omega) v1 m (K := fun z => ((some (Value.int q.1), (ej_sh, q.2)) : Option Value × ej_H) = (some (Value.int z.1), (ej_sh, z.2))) hf rfl (fun _ h => h))
def f_X11_take_L29b (v2 : Int32) (v3 : Int32) (m : ej_M) : Option ((Int32 × ej_M) ⊕ (Int32 × ej_M)) :=
  if (m.1 41 4) ≤ v3 then
    (f_X11_lead m).bind fun q1 =>
    some (Sum.inr (v2, q1.2))
  else
    (oj_ld 0 m 43 (v3 + 1)).bind fun w2 =>
    (oj_st 0 m 43 v3 w2).bind fun m3 =>
    some (Sum.inl ((v3 + 1), m3))
set_option maxHeartbeats 4000000 in
set_option maxRecDepth 100000 in
theorem b_X11_take_L29b (e : Nat) (hd : 6 ≤ e) (v2 : Int32) (v3 : Int32) (m : ej_M) {x : ((Int32 × ej_M) ⊕ (Int32 × ej_M))} {res : Option Value × ej_H} {K : ((Int32 × ej_M) ⊕ (Int32 × ej_M)) → Prop} (hf : f_X11_take_L29b v2 v3 m = some x) (hK : K x) (h1 : ∀ q : (Int32 × ej_M), K (Sum.inl q) → ej_Z cX11_take 4 (some .int) RX11 "take" (e + 1) 29 [(0, .ref 41), (2, .int v2), (3, .int q.1)] [] (ej_sh, q.2) res) (h0 : ∀ q : (Int32 × ej_M), K (Sum.inr q) → res = (some (Value.int q.1), (ej_sh, q.2))) : ej_Z cX11_take 4 (some .int) RX11 "take" (e + 1) 29 [(0, .ref 41), (2, .int v2), (3, .int v3)] [] (ej_sh, m) res := by
  unfold f_X11_take_L29b at hf
  refine z_iload_n (pc := 29) (i := 3) (j := 2) dX11_take_29 rfl rfl ?_
  refine z_aload_n (pc := 30) (i := 0) (j := 0) dX11_take_30 rfl rfl ?_
  refine z_ogetI (pc := 31) dX11_take_31 lf_RX11_108 sh_41 rfl rfl ?_
  refine z_icmp_ge (pc := 34) (tgt := 57) dX11_take_34 (by decide) (fun hc => ?_) (fun hc => ?_)
  · rw [if_pos hc] at hf
    refine z_aload_n (pc := 57) (i := 0) (j := 0) dX11_take_57 rfl rfl ?_
    obtain ⟨q1, hq1, hf⟩ := Option.bind_eq_some_iff.mp hf
    refine z_oVv (pc := 58) (as := []) (rest := []) dX11_take_58 lm_RX11_248 mf_X11_lead mi_X11_lead mv_X11_lead rc_41 rfl rfl (Nat.le_of_ble_eq_true rfl) (c_X11_lead e (by omega) m hq1) ?_
    refine z_iload_n (pc := 61) (i := 2) (j := 1) dX11_take_61 rfl rfl ?_
    obtain rfl := Option.some.inj hf
    rw [h0 _ hK]
    exact z_iret dX11_take_62 rfl rfl
  · rw [if_neg hc] at hf
    refine z_aload_n (pc := 37) (i := 0) (j := 0) dX11_take_37 rfl rfl ?_
    refine z_ogetR (pc := 38) dX11_take_38 lf_RX11_13 sh_41 rfl rfl rfl ?_
    refine z_iload_n (pc := 41) (i := 3) (j := 2) dX11_take_41 rfl rfl ?_
    refine z_aload_n (pc := 42) (i := 0) (j := 0) dX11_take_42 rfl rfl ?_
    refine z_ogetR (pc := 43) dX11_take_43 lf_RX11_13 sh_41 rfl rfl rfl ?_
    refine z_iload_n (pc := 46) (i := 3) (j := 2) dX11_take_46 rfl rfl ?_
    refine z_iconst (pc := 47) dX11_take_47 ki_1 ?_
    refine z_iadd (pc := 48) dX11_take_48 ?_
    obtain ⟨w2, hw2, hf⟩ := Option.bind_eq_some_iff.mp hf
    refine z_oiald (pc := 49) dX11_take_49 hw2 ?_
    obtain ⟨m3, hm3, hf⟩ := Option.bind_eq_some_iff.mp hf
    refine z_oiast (pc := 50) dX11_take_50 hm3 ?_
    refine z_iinc (pc := 51) (j := 2) (ls' := [(3, .int (v3 + 1)), (0, .ref 41), (2, .int v2)]) dX11_take_51 rfl ki_1 (Nat.le_of_ble_eq_true rfl) rfl ?_
    refine z_goto (pc := 54) (tgt := 29) dX11_take_54 (by decide) ?_
    obtain rfl := Option.some.inj hf
    exact z_pick (ls' := [(0, .ref 41), (2, .int v2), (3, .int (v3 + 1))]) [1, 2, 0] rfl (h1 ((v3 + 1), m3) hK)
def f_X11_take_L29 (v2 : Int32) (v3 : Int32) (m : ej_M) : Option (Int32 × ej_M) := oj_loop (fun q : (Int32 × ej_M) => f_X11_take_L29b v2 q.1 q.2) oj_FU (v3, m)
set_option maxHeartbeats 4000000 in
set_option maxRecDepth 100000 in
theorem b_X11_take_L29 (e : Nat) (hd : 6 ≤ e) (v2 : Int32) (v3 : Int32) (m : ej_M) {x : (Int32 × ej_M)} {res : Option Value × ej_H} {K : (Int32 × ej_M) → Prop} (hf : f_X11_take_L29 v2 v3 m = some x) (hK : K x) (h0 : ∀ q : (Int32 × ej_M), K q → res = (some (Value.int q.1), (ej_sh, q.2))) : ej_Z cX11_take 4 (some .int) RX11 "take" (e + 1) 29 [(0, .ref 41), (2, .int v2), (3, .int v3)] [] (ej_sh, m) res :=
  oj_loop_Z (body := fun q : (Int32 × ej_M) => f_X11_take_L29b v2 q.1 q.2) (P := fun q : (Int32 × ej_M) => ej_Z cX11_take 4 (some .int) RX11 "take" (e + 1) 29 [(0, .ref 41), (2, .int v2), (3, .int q.1)] [] (ej_sh, q.2) res) (K := K) (fun s x hb hl hr => b_X11_take_L29b e hd v2  s.1 s.2 (K := fun x => (∀ s' : (Int32 × ej_M), x = Sum.inl s' → ej_Z cX11_take 4 (some .int) RX11 "take" (e + 1) 29 [(0, .ref 41), (2, .int v2), (3, .int s'.1)] [] (ej_sh, s'.2) res) ∧ ∀ e, x = Sum.inr e → K e) hb ⟨hl, hr⟩ (fun q hq => hq.1 q rfl) (fun q hq => h0 q (hq.2 _ rfl))) oj_FU (v3, m) x hf hK
def f_X11_take (v1 : Int32) (m : ej_M) : Option (Int32 × ej_M) :=
  (f_X11_isPlace v1 m).bind fun q1 =>
  if q1.1 = 0 then
    some ((-1), q1.2)
  else
    (oj_ld 0 q1.2 43 v1).bind fun w2 =>
    (oj_pf q1.2 41 4 ((q1.2.1 41 4) - 1)).bind fun m3 =>
    f_X11_take_L29 w2 v1 m3
set_option maxHeartbeats 4000000 in
set_option maxRecDepth 100000 in
theorem b_X11_take (e : Nat) (hd : 6 ≤ e) (v1 : Int32) (m : ej_M) {x : (Int32 × ej_M)} {res : Option Value × ej_H} {K : (Int32 × ej_M) → Prop} (hf : f_X11_take v1 m = some x) (hK : K x) (h0 : ∀ q : (Int32 × ej_M), K q → res = (some (Value.int q.1), (ej_sh, q.2))) : ej_Z cX11_take 4 (some .int) RX11 "take" (e + 1) 0 [(0, .ref 41), (1, .int v1)] [] (ej_sh, m) res := by
  unfold f_X11_take at hf
  refine z_aload_n (pc := 0) (i := 0) (j := 0) dX11_take_0 rfl rfl ?_
  refine z_iload_n (pc := 1) (i := 1) (j := 1) dX11_take_1 rfl rfl ?_
  obtain ⟨q1, hq1, hf⟩ := Option.bind_eq_some_iff.mp hf
  refine z_oVi (pc := 2) (as := [.int v1]) (rest := []) dX11_take_2 lm_RX11_236 mf_X11_isPlace mi_X11_isPlace mv_X11_isPlace rc_41 rfl rfl (Nat.le_of_ble_eq_true rfl) (c_X11_isPlace e (by omega) v1 m hq1) ?_
  refine z_if_ne (pc := 5) (tgt := 10) dX11_take_5 (by decide) (fun hc => ?_) (fun hc => ?_)
  · rw [if_neg hc] at hf
    refine z_aload_n (pc := 10) (i := 0) (j := 0) dX11_take_10 rfl rfl ?_
    refine z_ogetR (pc := 11) dX11_take_11 lf_RX11_13 sh_41 rfl rfl rfl ?_
    refine z_iload_n (pc := 14) (i := 1) (j := 1) dX11_take_14 rfl rfl ?_
    obtain ⟨w2, hw2, hf⟩ := Option.bind_eq_some_iff.mp hf
    refine z_oiald (pc := 15) dX11_take_15 hw2 ?_
    refine z_istore_n (pc := 16) (i := 2) (ls' := [(2, .int w2), (0, .ref 41), (1, .int v1)]) dX11_take_16 rfl (Nat.le_of_ble_eq_true rfl) rfl ?_
    refine z_aload_n (pc := 17) (i := 0) (j := 1) dX11_take_17 rfl rfl ?_
    refine z_dup (pc := 18) dX11_take_18 rfl ?_
    refine z_ogetI (pc := 19) dX11_take_19 lf_RX11_108 sh_41 rfl rfl ?_
    refine z_iconst (pc := 22) dX11_take_22 ki_1 ?_
    refine z_isub (pc := 23) dX11_take_23 ?_
    obtain ⟨m3, hm3, hf⟩ := Option.bind_eq_some_iff.mp hf
    refine z_oputI (pc := 24) dX11_take_24 lf_RX11_108 sh_41 rfl hm3 ?_
    refine z_iload_n (pc := 27) (i := 1) (j := 2) dX11_take_27 rfl rfl ?_
    refine z_istore_n (pc := 28) (i := 3) (ls' := [(3, .int v1), (2, .int w2), (0, .ref 41), (1, .int v1)]) dX11_take_28 rfl (Nat.le_of_ble_eq_true rfl) rfl ?_
    exact z_pick [2, 1, 0] rfl (b_X11_take_L29 e hd w2 v1 m3 (K := K) hf hK  h0)
  · rw [if_pos hc] at hf
    refine z_iconst (pc := 8) dX11_take_8 ki_n1 ?_
    obtain rfl := Option.some.inj hf
    rw [h0 _ hK]
    exact z_iret dX11_take_9 rfl rfl
set_option maxHeartbeats 4000000 in
set_option maxRecDepth 100000 in
theorem c_X11_take (d : Nat) (hd : 7 ≤ d) (v1 : Int32) (m : ej_M) {q : (Int32 × ej_M)} (hf : f_X11_take v1 m = some q) : ej_Ct yX11_take cX11_take 4 (some .int) d [.ref 41, .int v1] (ej_sh, m) ((some (Value.int q.1), (ej_sh, q.2)) : Option Value × ej_H) := by
  obtain ⟨e, rfl⟩ : ∃ e, d = e + 1 := ⟨d - 1, by omega⟩
  exact z_met (by decide +kernel) (Nat.le_of_ble_eq_true rfl) (b_X11_take e (by omega) v1 m (K := fun z => ((some (Value.int q.1), (ej_sh, q.2)) : Option Value × ej_H) = (some (Value.int z.1), (ej_sh, z.2))) hf rfl (fun _ h => h))
def f_X10_exchange (v0 : Nat) (v1 : Int32) (v2 : Int32) (m : ej_M) : Option (Unit × ej_M) :=
  (f_X10_at v0 v1 m).bind fun q1 =>
  (f_X10_at v0 v2 q1.2).bind fun q2 =>
  (f_X10_lay v0 v1 q2.1 q2.2).bind fun q3 =>
  (f_X10_lay v0 v2 q1.1 q3.2).bind fun q4 =>
  some ((), q4.2)
set_option maxHeartbeats 4000000 in
set_option maxRecDepth 100000 in
theorem b_X10_exchange (e : Nat) (hd : 0 ≤ e) (v0 : Nat) (v1 : Int32) (v2 : Int32) (m : ej_M) {x : (Unit × ej_M)} {res : Option Value × ej_H} {K : (Unit × ej_M) → Prop} (hf : f_X10_exchange v0 v1 v2 m = some x) (hK : K x) (h0 : ∀ q : (Unit × ej_M), K q → res = (none, (ej_sh, q.2))) : ej_Z cX10_exchange 4 none RX10 "exchange" (e + 1) 0 [(0, .ref v0), (1, .int v1), (2, .int v2)] [] (ej_sh, m) res := by
  unfold f_X10_exchange at hf
  refine z_aload_n (pc := 0) (i := 0) (j := 0) dX10_exchange_0 rfl rfl ?_
  refine z_iload_n (pc := 1) (i := 1) (j := 1) dX10_exchange_1 rfl rfl ?_
  obtain ⟨q1, hq1, hf⟩ := Option.bind_eq_some_iff.mp hf
  refine z_oSi (pc := 2) (as := [.ref v0, .int v1]) (rest := []) dX10_exchange_2 lm_RX10_125 mf_X10_at ms_X10_at rfl rfl (Nat.le_of_ble_eq_true rfl) (c_X10_at e (by omega) v0 v1 m hq1) ?_
  refine z_istore_n (pc := 5) (i := 3) (ls' := [(3, .int q1.1), (0, .ref v0), (1, .int v1), (2, .int v2)]) dX10_exchange_5 rfl (Nat.le_of_ble_eq_true rfl) rfl ?_
  refine z_aload_n (pc := 6) (i := 0) (j := 1) dX10_exchange_6 rfl rfl ?_
  refine z_iload_n (pc := 7) (i := 1) (j := 2) dX10_exchange_7 rfl rfl ?_
  refine z_aload_n (pc := 8) (i := 0) (j := 1) dX10_exchange_8 rfl rfl ?_
  refine z_iload_n (pc := 9) (i := 2) (j := 3) dX10_exchange_9 rfl rfl ?_
  obtain ⟨q2, hq2, hf⟩ := Option.bind_eq_some_iff.mp hf
  refine z_oSi (pc := 10) (as := [.ref v0, .int v2]) (rest := [.int v1, .ref v0]) dX10_exchange_10 lm_RX10_125 mf_X10_at ms_X10_at rfl rfl (Nat.le_of_ble_eq_true rfl) (c_X10_at e (by omega) v0 v2 q1.2 hq2) ?_
  obtain ⟨q3, hq3, hf⟩ := Option.bind_eq_some_iff.mp hf
  refine z_oSv (pc := 13) (as := [.ref v0, .int v1, .int q2.1]) (rest := []) dX10_exchange_13 lm_RX10_316 mf_X10_lay ms_X10_lay rfl rfl (Nat.le_of_ble_eq_true rfl) (c_X10_lay e (by omega) v0 v1 q2.1 q2.2 hq3) ?_
  refine z_aload_n (pc := 16) (i := 0) (j := 1) dX10_exchange_16 rfl rfl ?_
  refine z_iload_n (pc := 17) (i := 2) (j := 3) dX10_exchange_17 rfl rfl ?_
  refine z_iload_n (pc := 18) (i := 3) (j := 0) dX10_exchange_18 rfl rfl ?_
  obtain ⟨q4, hq4, hf⟩ := Option.bind_eq_some_iff.mp hf
  refine z_oSv (pc := 19) (as := [.ref v0, .int v2, .int q1.1]) (rest := []) dX10_exchange_19 lm_RX10_316 mf_X10_lay ms_X10_lay rfl rfl (Nat.le_of_ble_eq_true rfl) (c_X10_lay e (by omega) v0 v2 q1.1 q3.2 hq4) ?_
  obtain rfl := Option.some.inj hf
  rw [h0 _ hK]
  exact z_ret dX10_exchange_22 rfl
set_option maxHeartbeats 4000000 in
set_option maxRecDepth 100000 in
theorem c_X10_exchange (d : Nat) (hd : 1 ≤ d) (v0 : Nat) (v1 : Int32) (v2 : Int32) (m : ej_M) {q : (Unit × ej_M)} (hf : f_X10_exchange v0 v1 v2 m = some q) : ej_Ct yX10_exchange cX10_exchange 4 none d [.ref v0, .int v1, .int v2] (ej_sh, m) ((none, (ej_sh, q.2)) : Option Value × ej_H) := by
  obtain ⟨e, rfl⟩ : ∃ e, d = e + 1 := ⟨d - 1, by omega⟩
  exact z_met (by decide +kernel) (Nat.le_of_ble_eq_true rfl) (b_X10_exchange e (by omega) v0 v1 v2 m (K := fun z => ((none, (ej_sh, q.2)) : Option Value × ej_H) = (none, (ej_sh, z.2))) hf rfl (fun _ h => h))
def f_X10_reverse_L2b (v0 : Nat) (v1 : Int32) (v2 : Int32) (v3 : Int32) (m : ej_M) : Option ((Int32 × ej_M) ⊕ (Unit × ej_M)) :=
  if (v2 - v3) ≤ (v1 + v3) then
    some (Sum.inr ((), m))
  else
    (f_X10_exchange v0 (v1 + v3) (v2 - v3) m).bind fun q1 =>
    some (Sum.inl ((v3 + 1), q1.2))
set_option maxHeartbeats 4000000 in
set_option maxRecDepth 100000 in
theorem b_X10_reverse_L2b (e : Nat) (hd : 1 ≤ e) (v0 : Nat) (v1 : Int32) (v2 : Int32) (v3 : Int32) (m : ej_M) {x : ((Int32 × ej_M) ⊕ (Unit × ej_M))} {res : Option Value × ej_H} {K : ((Int32 × ej_M) ⊕ (Unit × ej_M)) → Prop} (hf : f_X10_reverse_L2b v0 v1 v2 v3 m = some x) (hK : K x) (h1 : ∀ q : (Int32 × ej_M), K (Sum.inl q) → ej_Z cX10_reverse 4 none RX10 "reverse" (e + 1) 2 [(0, .ref v0), (1, .int v1), (2, .int v2), (3, .int q.1)] [] (ej_sh, q.2) res) (h0 : ∀ q : (Unit × ej_M), K (Sum.inr q) → res = (none, (ej_sh, q.2))) : ej_Z cX10_reverse 4 none RX10 "reverse" (e + 1) 2 [(0, .ref v0), (1, .int v1), (2, .int v2), (3, .int v3)] [] (ej_sh, m) res := by
  unfold f_X10_reverse_L2b at hf
  refine z_iload_n (pc := 2) (i := 1) (j := 1) dX10_reverse_2 rfl rfl ?_
  refine z_iload_n (pc := 3) (i := 3) (j := 3) dX10_reverse_3 rfl rfl ?_
  refine z_iadd (pc := 4) dX10_reverse_4 ?_
  refine z_iload_n (pc := 5) (i := 2) (j := 2) dX10_reverse_5 rfl rfl ?_
  refine z_iload_n (pc := 6) (i := 3) (j := 3) dX10_reverse_6 rfl rfl ?_
  refine z_isub (pc := 7) dX10_reverse_7 ?_
  refine z_icmp_ge (pc := 8) (tgt := 27) dX10_reverse_8 (by decide) (fun hc => ?_) (fun hc => ?_)
  · rw [if_pos hc] at hf
    obtain rfl := Option.some.inj hf
    rw [h0 _ hK]
    exact z_ret dX10_reverse_27 rfl
  · rw [if_neg hc] at hf
    refine z_aload_n (pc := 11) (i := 0) (j := 0) dX10_reverse_11 rfl rfl ?_
    refine z_iload_n (pc := 12) (i := 1) (j := 1) dX10_reverse_12 rfl rfl ?_
    refine z_iload_n (pc := 13) (i := 3) (j := 3) dX10_reverse_13 rfl rfl ?_
    refine z_iadd (pc := 14) dX10_reverse_14 ?_
    refine z_iload_n (pc := 15) (i := 2) (j := 2) dX10_reverse_15 rfl rfl ?_
    refine z_iload_n (pc := 16) (i := 3) (j := 3) dX10_reverse_16 rfl rfl ?_
    refine z_isub (pc := 17) dX10_reverse_17 ?_
    obtain ⟨q1, hq1, hf⟩ := Option.bind_eq_some_iff.mp hf
    refine z_oSv (pc := 18) (as := [.ref v0, .int (v1 + v3), .int (v2 - v3)]) (rest := []) dX10_reverse_18 lm_RX10_319 mf_X10_exchange ms_X10_exchange rfl rfl (Nat.le_of_ble_eq_true rfl) (c_X10_exchange e (by omega) v0 (v1 + v3) (v2 - v3) m hq1) ?_
    refine z_iinc (pc := 21) (j := 3) (ls' := [(3, .int (v3 + 1)), (0, .ref v0), (1, .int v1), (2, .int v2)]) dX10_reverse_21 rfl ki_1 (Nat.le_of_ble_eq_true rfl) rfl ?_
    refine z_goto (pc := 24) (tgt := 2) dX10_reverse_24 (by decide) ?_
    obtain rfl := Option.some.inj hf
    exact z_pick (ls' := [(0, .ref v0), (1, .int v1), (2, .int v2), (3, .int (v3 + 1))]) [1, 2, 3, 0] rfl (h1 ((v3 + 1), q1.2) hK)
def f_X10_reverse_L2 (v0 : Nat) (v1 : Int32) (v2 : Int32) (v3 : Int32) (m : ej_M) : Option (Unit × ej_M) := oj_loop (fun q : (Int32 × ej_M) => f_X10_reverse_L2b v0 v1 v2 q.1 q.2) oj_FU (v3, m)
set_option maxHeartbeats 4000000 in
set_option maxRecDepth 100000 in
theorem b_X10_reverse_L2 (e : Nat) (hd : 1 ≤ e) (v0 : Nat) (v1 : Int32) (v2 : Int32) (v3 : Int32) (m : ej_M) {x : (Unit × ej_M)} {res : Option Value × ej_H} {K : (Unit × ej_M) → Prop} (hf : f_X10_reverse_L2 v0 v1 v2 v3 m = some x) (hK : K x) (h0 : ∀ q : (Unit × ej_M), K q → res = (none, (ej_sh, q.2))) : ej_Z cX10_reverse 4 none RX10 "reverse" (e + 1) 2 [(0, .ref v0), (1, .int v1), (2, .int v2), (3, .int v3)] [] (ej_sh, m) res :=
  oj_loop_Z (body := fun q : (Int32 × ej_M) => f_X10_reverse_L2b v0 v1 v2 q.1 q.2) (P := fun q : (Int32 × ej_M) => ej_Z cX10_reverse 4 none RX10 "reverse" (e + 1) 2 [(0, .ref v0), (1, .int v1), (2, .int v2), (3, .int q.1)] [] (ej_sh, q.2) res) (K := K) (fun s x hb hl hr => b_X10_reverse_L2b e hd v0 v1 v2  s.1 s.2 (K := fun x => (∀ s' : (Int32 × ej_M), x = Sum.inl s' → ej_Z cX10_reverse 4 none RX10 "reverse" (e + 1) 2 [(0, .ref v0), (1, .int v1), (2, .int v2), (3, .int s'.1)] [] (ej_sh, s'.2) res) ∧ ∀ e, x = Sum.inr e → K e) hb ⟨hl, hr⟩ (fun q hq => hq.1 q rfl) (fun q hq => h0 q (hq.2 _ rfl))) oj_FU (v3, m) x hf hK
def f_X10_reverse (v0 : Nat) (v1 : Int32) (v2 : Int32) (m : ej_M) : Option (Unit × ej_M) :=
  f_X10_reverse_L2 v0 v1 v2 0 m
set_option maxHeartbeats 4000000 in
set_option maxRecDepth 100000 in
theorem b_X10_reverse (e : Nat) (hd : 1 ≤ e) (v0 : Nat) (v1 : Int32) (v2 : Int32) (m : ej_M) {x : (Unit × ej_M)} {res : Option Value × ej_H} {K : (Unit × ej_M) → Prop} (hf : f_X10_reverse v0 v1 v2 m = some x) (hK : K x) (h0 : ∀ q : (Unit × ej_M), K q → res = (none, (ej_sh, q.2))) : ej_Z cX10_reverse 4 none RX10 "reverse" (e + 1) 0 [(0, .ref v0), (1, .int v1), (2, .int v2)] [] (ej_sh, m) res := by
  unfold f_X10_reverse at hf
  refine z_iconst (pc := 0) dX10_reverse_0 ki_0 ?_
  refine z_istore_n (pc := 1) (i := 3) (ls' := [(3, .int 0), (0, .ref v0), (1, .int v1), (2, .int v2)]) dX10_reverse_1 rfl (Nat.le_of_ble_eq_true rfl) rfl ?_
  exact z_pick [1, 2, 3, 0] rfl (b_X10_reverse_L2 e hd v0 v1 v2 0 m (K := K) hf hK  h0)
set_option maxHeartbeats 4000000 in
set_option maxRecDepth 100000 in
theorem c_X10_reverse (d : Nat) (hd : 2 ≤ d) (v0 : Nat) (v1 : Int32) (v2 : Int32) (m : ej_M) {q : (Unit × ej_M)} (hf : f_X10_reverse v0 v1 v2 m = some q) : ej_Ct yX10_reverse cX10_reverse 4 none d [.ref v0, .int v1, .int v2] (ej_sh, m) ((none, (ej_sh, q.2)) : Option Value × ej_H) := by
  obtain ⟨e, rfl⟩ : ∃ e, d = e + 1 := ⟨d - 1, by omega⟩
  exact z_met (by decide +kernel) (Nat.le_of_ble_eq_true rfl) (b_X10_reverse e (by omega) v0 v1 v2 m (K := fun z => ((none, (ej_sh, q.2)) : Option Value × ej_H) = (none, (ej_sh, z.2))) hf rfl (fun _ h => h))
def f_X10_turn (v1 : Int32) (m : ej_M) : Option (Int32 × ej_M) :=
  if 0 ≤ v1 then
    (oj_dv v1 10).bind fun w1 =>
    (oj_rm v1 10).bind fun w2 =>
    if w2 ≤ w1 then
      some ((-1), m)
    else
      (f_X4_isPlace w2 m).bind fun q3 =>
      if q3.1 = 0 then
        some ((-1), q3.2)
      else
        (f_X10_reverse 8 w1 w2 q3.2).bind fun q4 =>
        (f_X4_lead q4.2).bind fun q5 =>
        some (((w2 - w1) + 1), q5.2)
  else
    some ((-1), m)
set_option maxHeartbeats 4000000 in
set_option maxRecDepth 100000 in
theorem b_X10_turn (e : Nat) (hd : 5 ≤ e) (v1 : Int32) (m : ej_M) {x : (Int32 × ej_M)} {res : Option Value × ej_H} {K : (Int32 × ej_M) → Prop} (hf : f_X10_turn v1 m = some x) (hK : K x) (h0 : ∀ q : (Int32 × ej_M), K q → res = (some (Value.int q.1), (ej_sh, q.2))) : ej_Z cX10_turn 4 (some .int) RX10 "turn" (e + 1) 0 [(0, .ref 0), (1, .int v1)] [] (ej_sh, m) res := by
  unfold f_X10_turn at hf
  refine z_iload_n (pc := 0) (i := 1) (j := 1) dX10_turn_0 rfl rfl ?_
  refine z_if_ge (pc := 1) (tgt := 6) dX10_turn_1 (by decide) (fun hc => ?_) (fun hc => ?_)
  · rw [if_pos hc] at hf
    refine z_iload_n (pc := 6) (i := 1) (j := 1) dX10_turn_6 rfl rfl ?_
    refine z_bipush (pc := 7) dX10_turn_7 kb_10 ?_
    obtain ⟨w1, hw1, hf⟩ := Option.bind_eq_some_iff.mp hf
    refine z_odiv (pc := 9) dX10_turn_9 hw1 ?_
    refine z_istore_n (pc := 10) (i := 2) (ls' := [(2, .int w1), (0, .ref 0), (1, .int v1)]) dX10_turn_10 rfl (Nat.le_of_ble_eq_true rfl) rfl ?_
    refine z_iload_n (pc := 11) (i := 1) (j := 2) dX10_turn_11 rfl rfl ?_
    refine z_bipush (pc := 12) dX10_turn_12 kb_10 ?_
    obtain ⟨w2, hw2, hf⟩ := Option.bind_eq_some_iff.mp hf
    refine z_orem (pc := 14) dX10_turn_14 hw2 ?_
    refine z_istore_n (pc := 15) (i := 3) (ls' := [(3, .int w2), (2, .int w1), (0, .ref 0), (1, .int v1)]) dX10_turn_15 rfl (Nat.le_of_ble_eq_true rfl) rfl ?_
    refine z_iload_n (pc := 16) (i := 2) (j := 1) dX10_turn_16 rfl rfl ?_
    refine z_iload_n (pc := 17) (i := 3) (j := 0) dX10_turn_17 rfl rfl ?_
    refine z_icmp_ge (pc := 18) (tgt := 32) dX10_turn_18 (by decide) (fun hc => ?_) (fun hc => ?_)
    · rw [if_pos hc] at hf
      refine z_iconst (pc := 32) dX10_turn_32 ki_n1 ?_
      obtain rfl := Option.some.inj hf
      rw [h0 _ hK]
      exact z_iret dX10_turn_33 rfl rfl
    · rw [if_neg hc] at hf
      refine z_aload_n (pc := 21) (i := 0) (j := 2) dX10_turn_21 rfl rfl ?_
      refine z_ogetR (pc := 22) dX10_turn_22 lf_RX10_21 sh_0 rfl rfl rfl ?_
      refine z_iload_n (pc := 25) (i := 3) (j := 0) dX10_turn_25 rfl rfl ?_
      obtain ⟨q3, hq3, hf⟩ := Option.bind_eq_some_iff.mp hf
      refine z_oVi (pc := 26) (as := [.int w2]) (rest := []) dX10_turn_26 lm_RX10_118 mf_X4_isPlace mi_X4_isPlace mv_X4_isPlace rc_6 rfl rfl (Nat.le_of_ble_eq_true rfl) (c_X4_isPlace e (by omega) w2 m hq3) ?_
      refine z_if_ne (pc := 29) (tgt := 34) dX10_turn_29 (by decide) (fun hc => ?_) (fun hc => ?_)
      · rw [if_neg hc] at hf
        refine z_aload_n (pc := 34) (i := 0) (j := 2) dX10_turn_34 rfl rfl ?_
        refine z_ogetR (pc := 35) dX10_turn_35 lf_RX10_21 sh_0 rfl rfl rfl ?_
        refine z_ogetR (pc := 38) dX10_turn_38 lf_RX10_121 sh_6 rfl rfl rfl ?_
        refine z_iload_n (pc := 41) (i := 2) (j := 1) dX10_turn_41 rfl rfl ?_
        refine z_iload_n (pc := 42) (i := 3) (j := 0) dX10_turn_42 rfl rfl ?_
        obtain ⟨q4, hq4, hf⟩ := Option.bind_eq_some_iff.mp hf
        refine z_oSv (pc := 43) (as := [.ref 8, .int w1, .int w2]) (rest := []) dX10_turn_43 lm_RX10_170 mf_X10_reverse ms_X10_reverse rfl rfl (Nat.le_of_ble_eq_true rfl) (c_X10_reverse e (by omega) 8 w1 w2 q3.2 hq4) ?_
        refine z_aload_n (pc := 46) (i := 0) (j := 2) dX10_turn_46 rfl rfl ?_
        refine z_ogetR (pc := 47) dX10_turn_47 lf_RX10_21 sh_0 rfl rfl rfl ?_
        obtain ⟨q5, hq5, hf⟩ := Option.bind_eq_some_iff.mp hf
        refine z_oVv (pc := 50) (as := []) (rest := []) dX10_turn_50 lm_RX10_163 mf_X4_lead mi_X4_lead mv_X4_lead rc_6 rfl rfl (Nat.le_of_ble_eq_true rfl) (c_X4_lead e (by omega) q4.2 hq5) ?_
        refine z_iload_n (pc := 53) (i := 3) (j := 0) dX10_turn_53 rfl rfl ?_
        refine z_iload_n (pc := 54) (i := 2) (j := 1) dX10_turn_54 rfl rfl ?_
        refine z_isub (pc := 55) dX10_turn_55 ?_
        refine z_iconst (pc := 56) dX10_turn_56 ki_1 ?_
        refine z_iadd (pc := 57) dX10_turn_57 ?_
        obtain rfl := Option.some.inj hf
        rw [h0 _ hK]
        exact z_iret dX10_turn_58 rfl rfl
      · rw [if_pos hc] at hf
        refine z_iconst (pc := 32) dX10_turn_32 ki_n1 ?_
        obtain rfl := Option.some.inj hf
        rw [h0 _ hK]
        exact z_iret dX10_turn_33 rfl rfl
  · rw [if_neg hc] at hf
    refine z_iconst (pc := 4) dX10_turn_4 ki_n1 ?_
    obtain rfl := Option.some.inj hf
    rw [h0 _ hK]
    exact z_iret dX10_turn_5 rfl rfl
set_option maxHeartbeats 4000000 in
set_option maxRecDepth 100000 in
theorem c_X10_turn (d : Nat) (hd : 6 ≤ d) (v1 : Int32) (m : ej_M) {q : (Int32 × ej_M)} (hf : f_X10_turn v1 m = some q) : ej_Ct yX10_turn cX10_turn 4 (some .int) d [.ref 0, .int v1] (ej_sh, m) ((some (Value.int q.1), (ej_sh, q.2)) : Option Value × ej_H) := by
  obtain ⟨e, rfl⟩ : ∃ e, d = e + 1 := ⟨d - 1, by omega⟩
  exact z_met (by decide +kernel) (Nat.le_of_ble_eq_true rfl) (b_X10_turn e (by omega) v1 m (K := fun z => ((some (Value.int q.1), (ej_sh, q.2)) : Option Value × ej_H) = (some (Value.int z.1), (ej_sh, z.2))) hf rfl (fun _ h => h))
def f_X11_swapRow (v1 : Int32) (v2 : Int32) (m : ej_M) : Option (Unit × ej_M) :=
  (oj_ld 0 m 56 v1).bind fun w1 =>
  (oj_ld 0 m 56 v2).bind fun w2 =>
  (oj_st 0 m 56 v1 w2).bind fun m3 =>
  (oj_st 0 m3 56 v2 w1).bind fun m4 =>
  some ((), m4)
set_option maxHeartbeats 4000000 in
set_option maxRecDepth 100000 in
theorem b_X11_swapRow (d : Nat) (v1 : Int32) (v2 : Int32) (m : ej_M) {x : (Unit × ej_M)} {res : Option Value × ej_H} {K : (Unit × ej_M) → Prop} (hf : f_X11_swapRow v1 v2 m = some x) (hK : K x) (h0 : ∀ q : (Unit × ej_M), K q → res = (none, (ej_sh, q.2))) : ej_Z cX11_swapRow 4 none RX11 "swapRow" d 0 [(0, .ref 41), (1, .int v1), (2, .int v2)] [] (ej_sh, m) res := by
  unfold f_X11_swapRow at hf
  refine z_aload_n (pc := 0) (i := 0) (j := 0) dX11_swapRow_0 rfl rfl ?_
  refine z_ogetR (pc := 1) dX11_swapRow_1 lf_RX11_54 sh_41 rfl rfl rfl ?_
  refine z_iload_n (pc := 4) (i := 1) (j := 1) dX11_swapRow_4 rfl rfl ?_
  obtain ⟨w1, hw1, hf⟩ := Option.bind_eq_some_iff.mp hf
  refine z_oiald (pc := 5) dX11_swapRow_5 hw1 ?_
  refine z_istore_n (pc := 6) (i := 3) (ls' := [(3, .int w1), (0, .ref 41), (1, .int v1), (2, .int v2)]) dX11_swapRow_6 rfl (Nat.le_of_ble_eq_true rfl) rfl ?_
  refine z_aload_n (pc := 7) (i := 0) (j := 1) dX11_swapRow_7 rfl rfl ?_
  refine z_ogetR (pc := 8) dX11_swapRow_8 lf_RX11_54 sh_41 rfl rfl rfl ?_
  refine z_iload_n (pc := 11) (i := 1) (j := 2) dX11_swapRow_11 rfl rfl ?_
  refine z_aload_n (pc := 12) (i := 0) (j := 1) dX11_swapRow_12 rfl rfl ?_
  refine z_ogetR (pc := 13) dX11_swapRow_13 lf_RX11_54 sh_41 rfl rfl rfl ?_
  refine z_iload_n (pc := 16) (i := 2) (j := 3) dX11_swapRow_16 rfl rfl ?_
  obtain ⟨w2, hw2, hf⟩ := Option.bind_eq_some_iff.mp hf
  refine z_oiald (pc := 17) dX11_swapRow_17 hw2 ?_
  obtain ⟨m3, hm3, hf⟩ := Option.bind_eq_some_iff.mp hf
  refine z_oiast (pc := 18) dX11_swapRow_18 hm3 ?_
  refine z_aload_n (pc := 19) (i := 0) (j := 1) dX11_swapRow_19 rfl rfl ?_
  refine z_ogetR (pc := 20) dX11_swapRow_20 lf_RX11_54 sh_41 rfl rfl rfl ?_
  refine z_iload_n (pc := 23) (i := 2) (j := 3) dX11_swapRow_23 rfl rfl ?_
  refine z_iload_n (pc := 24) (i := 3) (j := 0) dX11_swapRow_24 rfl rfl ?_
  obtain ⟨m4, hm4, hf⟩ := Option.bind_eq_some_iff.mp hf
  refine z_oiast (pc := 25) dX11_swapRow_25 hm4 ?_
  obtain rfl := Option.some.inj hf
  rw [h0 _ hK]
  exact z_ret dX11_swapRow_26 rfl
set_option maxHeartbeats 4000000 in
set_option maxRecDepth 100000 in
theorem c_X11_swapRow (d : Nat) (hd : 0 ≤ d) (v1 : Int32) (v2 : Int32) (m : ej_M) {q : (Unit × ej_M)} (hf : f_X11_swapRow v1 v2 m = some q) : ej_Ct yX11_swapRow cX11_swapRow 4 none d [.ref 41, .int v1, .int v2] (ej_sh, m) ((none, (ej_sh, q.2)) : Option Value × ej_H) := by
  exact z_met (by decide +kernel) (Nat.le_of_ble_eq_true rfl) (b_X11_swapRow d v1 v2 m (K := fun z => ((none, (ej_sh, q.2)) : Option Value × ej_H) = (none, (ej_sh, z.2))) hf rfl (fun _ h => h))
def f_X11_turnRow_L5b (v3 : Int32) (v4 : Int32) (m : ej_M) : Option ((Int32 × Int32 × ej_M) ⊕ (Unit × ej_M)) :=
  if v4 ≤ v3 then
    some (Sum.inr ((), m))
  else
    (f_X11_swapRow v3 v4 m).bind fun q1 =>
    some (Sum.inl ((v3 + 1), (v4 + (-1)), q1.2))
set_option maxHeartbeats 4000000 in
set_option maxRecDepth 100000 in
theorem b_X11_turnRow_L5b (e : Nat) (hd : 0 ≤ e) (v3 : Int32) (v4 : Int32) (m : ej_M) {x : ((Int32 × Int32 × ej_M) ⊕ (Unit × ej_M))} {res : Option Value × ej_H} {K : ((Int32 × Int32 × ej_M) ⊕ (Unit × ej_M)) → Prop} (hf : f_X11_turnRow_L5b v3 v4 m = some x) (hK : K x) (h1 : ∀ q : (Int32 × Int32 × ej_M), K (Sum.inl q) → ej_Z cX11_turnRow 5 none RX11 "turnRow" (e + 1) 5 [(0, .ref 41), (3, .int q.1), (4, .int q.2.1)] [] (ej_sh, q.2.2) res) (h0 : ∀ q : (Unit × ej_M), K (Sum.inr q) → res = (none, (ej_sh, q.2))) : ej_Z cX11_turnRow 5 none RX11 "turnRow" (e + 1) 5 [(0, .ref 41), (3, .int v3), (4, .int v4)] [] (ej_sh, m) res := by
  unfold f_X11_turnRow_L5b at hf
  refine z_iload_n (pc := 5) (i := 3) (j := 1) dX11_turnRow_5 rfl rfl ?_
  refine z_iload (pc := 6) (i := 4) (j := 2) dX11_turnRow_6 rfl ?_
  refine z_icmp_ge (pc := 8) (tgt := 27) dX11_turnRow_8 (by decide) (fun hc => ?_) (fun hc => ?_)
  · rw [if_pos hc] at hf
    obtain rfl := Option.some.inj hf
    rw [h0 _ hK]
    exact z_ret dX11_turnRow_27 rfl
  · rw [if_neg hc] at hf
    refine z_aload_n (pc := 11) (i := 0) (j := 0) dX11_turnRow_11 rfl rfl ?_
    refine z_iload_n (pc := 12) (i := 3) (j := 1) dX11_turnRow_12 rfl rfl ?_
    refine z_iload (pc := 13) (i := 4) (j := 2) dX11_turnRow_13 rfl ?_
    obtain ⟨q1, hq1, hf⟩ := Option.bind_eq_some_iff.mp hf
    refine z_oVv (pc := 15) (as := [.int v3, .int v4]) (rest := []) dX11_turnRow_15 lm_RX11_224 mf_X11_swapRow mi_X11_swapRow mv_X11_swapRow rc_41 rfl rfl (Nat.le_of_ble_eq_true rfl) (c_X11_swapRow e (by omega) v3 v4 m hq1) ?_
    refine z_iinc (pc := 18) (j := 1) (ls' := [(3, .int (v3 + 1)), (0, .ref 41), (4, .int v4)]) dX11_turnRow_18 rfl ki_1 (Nat.le_of_ble_eq_true rfl) rfl ?_
    refine z_iinc (pc := 21) (j := 2) (ls' := [(4, .int (v4 + (-1))), (3, .int (v3 + 1)), (0, .ref 41)]) dX11_turnRow_21 rfl ki_n1 (Nat.le_of_ble_eq_true rfl) rfl ?_
    refine z_goto (pc := 24) (tgt := 5) dX11_turnRow_24 (by decide) ?_
    obtain rfl := Option.some.inj hf
    exact z_pick (ls' := [(0, .ref 41), (3, .int (v3 + 1)), (4, .int (v4 + (-1)))]) [2, 1, 0] rfl (h1 ((v3 + 1), (v4 + (-1)), q1.2) hK)
def f_X11_turnRow_L5 (v3 : Int32) (v4 : Int32) (m : ej_M) : Option (Unit × ej_M) := oj_loop (fun q : (Int32 × Int32 × ej_M) => f_X11_turnRow_L5b q.1 q.2.1 q.2.2) oj_FU (v3, v4, m)
set_option maxHeartbeats 4000000 in
set_option maxRecDepth 100000 in
theorem b_X11_turnRow_L5 (e : Nat) (hd : 0 ≤ e) (v3 : Int32) (v4 : Int32) (m : ej_M) {x : (Unit × ej_M)} {res : Option Value × ej_H} {K : (Unit × ej_M) → Prop} (hf : f_X11_turnRow_L5 v3 v4 m = some x) (hK : K x) (h0 : ∀ q : (Unit × ej_M), K q → res = (none, (ej_sh, q.2))) : ej_Z cX11_turnRow 5 none RX11 "turnRow" (e + 1) 5 [(0, .ref 41), (3, .int v3), (4, .int v4)] [] (ej_sh, m) res :=
  oj_loop_Z (body := fun q : (Int32 × Int32 × ej_M) => f_X11_turnRow_L5b q.1 q.2.1 q.2.2) (P := fun q : (Int32 × Int32 × ej_M) => ej_Z cX11_turnRow 5 none RX11 "turnRow" (e + 1) 5 [(0, .ref 41), (3, .int q.1), (4, .int q.2.1)] [] (ej_sh, q.2.2) res) (K := K) (fun s x hb hl hr => b_X11_turnRow_L5b e hd  s.1 s.2.1 s.2.2 (K := fun x => (∀ s' : (Int32 × Int32 × ej_M), x = Sum.inl s' → ej_Z cX11_turnRow 5 none RX11 "turnRow" (e + 1) 5 [(0, .ref 41), (3, .int s'.1), (4, .int s'.2.1)] [] (ej_sh, s'.2.2) res) ∧ ∀ e, x = Sum.inr e → K e) hb ⟨hl, hr⟩ (fun q hq => hq.1 q rfl) (fun q hq => h0 q (hq.2 _ rfl))) oj_FU (v3, v4, m) x hf hK
def f_X11_turnRow (v1 : Int32) (v2 : Int32) (m : ej_M) : Option (Unit × ej_M) :=
  f_X11_turnRow_L5 v1 v2 m
set_option maxHeartbeats 4000000 in
set_option maxRecDepth 100000 in
theorem b_X11_turnRow (e : Nat) (hd : 0 ≤ e) (v1 : Int32) (v2 : Int32) (m : ej_M) {x : (Unit × ej_M)} {res : Option Value × ej_H} {K : (Unit × ej_M) → Prop} (hf : f_X11_turnRow v1 v2 m = some x) (hK : K x) (h0 : ∀ q : (Unit × ej_M), K q → res = (none, (ej_sh, q.2))) : ej_Z cX11_turnRow 5 none RX11 "turnRow" (e + 1) 0 [(0, .ref 41), (1, .int v1), (2, .int v2)] [] (ej_sh, m) res := by
  unfold f_X11_turnRow at hf
  refine z_iload_n (pc := 0) (i := 1) (j := 1) dX11_turnRow_0 rfl rfl ?_
  refine z_istore_n (pc := 1) (i := 3) (ls' := [(3, .int v1), (0, .ref 41), (1, .int v1), (2, .int v2)]) dX11_turnRow_1 rfl (Nat.le_of_ble_eq_true rfl) rfl ?_
  refine z_iload_n (pc := 2) (i := 2) (j := 3) dX11_turnRow_2 rfl rfl ?_
  refine z_istore (pc := 3) (i := 4) (ls' := [(4, .int v2), (3, .int v1), (0, .ref 41), (1, .int v1), (2, .int v2)]) dX11_turnRow_3 (Nat.le_of_ble_eq_true rfl) rfl ?_
  exact z_pick [2, 1, 0] rfl (b_X11_turnRow_L5 e hd v1 v2 m (K := K) hf hK  h0)
set_option maxHeartbeats 4000000 in
set_option maxRecDepth 100000 in
theorem c_X11_turnRow (d : Nat) (hd : 1 ≤ d) (v1 : Int32) (v2 : Int32) (m : ej_M) {q : (Unit × ej_M)} (hf : f_X11_turnRow v1 v2 m = some q) : ej_Ct yX11_turnRow cX11_turnRow 5 none d [.ref 41, .int v1, .int v2] (ej_sh, m) ((none, (ej_sh, q.2)) : Option Value × ej_H) := by
  obtain ⟨e, rfl⟩ : ∃ e, d = e + 1 := ⟨d - 1, by omega⟩
  exact z_met (by decide +kernel) (Nat.le_of_ble_eq_true rfl) (b_X11_turnRow e (by omega) v1 v2 m (K := fun z => ((none, (ej_sh, q.2)) : Option Value × ej_H) = (none, (ej_sh, z.2))) hf rfl (fun _ h => h))
def f_X11_turn_L57b (v1 : Int32) (v2 : Int32) (m : ej_M) : Option ((Int32 × ej_M) ⊕ (Int32 × ej_M)) :=
  if (m.1 41 4) ≤ v2 then
    (f_X11_lead m).bind fun q1 =>
    (oj_rm v1 10).bind fun w2 =>
    (oj_dv v1 10).bind fun w3 =>
    some (Sum.inr (((w2 - w3) + 1), q1.2))
  else
    (oj_ld 0 m 56 v2).bind fun w4 =>
    (oj_st 0 m 43 v2 w4).bind fun m5 =>
    some (Sum.inl ((v2 + 1), m5))
set_option maxHeartbeats 4000000 in
set_option maxRecDepth 100000 in
theorem b_X11_turn_L57b (e : Nat) (hd : 6 ≤ e) (v1 : Int32) (v2 : Int32) (m : ej_M) {x : ((Int32 × ej_M) ⊕ (Int32 × ej_M))} {res : Option Value × ej_H} {K : ((Int32 × ej_M) ⊕ (Int32 × ej_M)) → Prop} (hf : f_X11_turn_L57b v1 v2 m = some x) (hK : K x) (h1 : ∀ q : (Int32 × ej_M), K (Sum.inl q) → ej_Z cX11_turn 3 (some .int) RX11 "turn" (e + 1) 57 [(0, .ref 41), (1, .int v1), (2, .int q.1)] [] (ej_sh, q.2) res) (h0 : ∀ q : (Int32 × ej_M), K (Sum.inr q) → res = (some (Value.int q.1), (ej_sh, q.2))) : ej_Z cX11_turn 3 (some .int) RX11 "turn" (e + 1) 57 [(0, .ref 41), (1, .int v1), (2, .int v2)] [] (ej_sh, m) res := by
  unfold f_X11_turn_L57b at hf
  refine z_iload_n (pc := 57) (i := 2) (j := 2) dX11_turn_57 rfl rfl ?_
  refine z_aload_n (pc := 58) (i := 0) (j := 0) dX11_turn_58 rfl rfl ?_
  refine z_ogetI (pc := 59) dX11_turn_59 lf_RX11_108 sh_41 rfl rfl ?_
  refine z_icmp_ge (pc := 62) (tgt := 83) dX11_turn_62 (by decide) (fun hc => ?_) (fun hc => ?_)
  · rw [if_pos hc] at hf
    refine z_aload_n (pc := 83) (i := 0) (j := 0) dX11_turn_83 rfl rfl ?_
    obtain ⟨q1, hq1, hf⟩ := Option.bind_eq_some_iff.mp hf
    refine z_oVv (pc := 84) (as := []) (rest := []) dX11_turn_84 lm_RX11_248 mf_X11_lead mi_X11_lead mv_X11_lead rc_41 rfl rfl (Nat.le_of_ble_eq_true rfl) (c_X11_lead e (by omega) m hq1) ?_
    refine z_iload_n (pc := 87) (i := 1) (j := 1) dX11_turn_87 rfl rfl ?_
    refine z_bipush (pc := 88) dX11_turn_88 kb_10 ?_
    obtain ⟨w2, hw2, hf⟩ := Option.bind_eq_some_iff.mp hf
    refine z_orem (pc := 90) dX11_turn_90 hw2 ?_
    refine z_iload_n (pc := 91) (i := 1) (j := 1) dX11_turn_91 rfl rfl ?_
    refine z_bipush (pc := 92) dX11_turn_92 kb_10 ?_
    obtain ⟨w3, hw3, hf⟩ := Option.bind_eq_some_iff.mp hf
    refine z_odiv (pc := 94) dX11_turn_94 hw3 ?_
    refine z_isub (pc := 95) dX11_turn_95 ?_
    refine z_iconst (pc := 96) dX11_turn_96 ki_1 ?_
    refine z_iadd (pc := 97) dX11_turn_97 ?_
    obtain rfl := Option.some.inj hf
    rw [h0 _ hK]
    exact z_iret dX11_turn_98 rfl rfl
  · rw [if_neg hc] at hf
    refine z_aload_n (pc := 65) (i := 0) (j := 0) dX11_turn_65 rfl rfl ?_
    refine z_ogetR (pc := 66) dX11_turn_66 lf_RX11_13 sh_41 rfl rfl rfl ?_
    refine z_iload_n (pc := 69) (i := 2) (j := 2) dX11_turn_69 rfl rfl ?_
    refine z_aload_n (pc := 70) (i := 0) (j := 0) dX11_turn_70 rfl rfl ?_
    refine z_ogetR (pc := 71) dX11_turn_71 lf_RX11_54 sh_41 rfl rfl rfl ?_
    refine z_iload_n (pc := 74) (i := 2) (j := 2) dX11_turn_74 rfl rfl ?_
    obtain ⟨w4, hw4, hf⟩ := Option.bind_eq_some_iff.mp hf
    refine z_oiald (pc := 75) dX11_turn_75 hw4 ?_
    obtain ⟨m5, hm5, hf⟩ := Option.bind_eq_some_iff.mp hf
    refine z_oiast (pc := 76) dX11_turn_76 hm5 ?_
    refine z_iinc (pc := 77) (j := 2) (ls' := [(2, .int (v2 + 1)), (0, .ref 41), (1, .int v1)]) dX11_turn_77 rfl ki_1 (Nat.le_of_ble_eq_true rfl) rfl ?_
    refine z_goto (pc := 80) (tgt := 57) dX11_turn_80 (by decide) ?_
    obtain rfl := Option.some.inj hf
    exact z_pick (ls' := [(0, .ref 41), (1, .int v1), (2, .int (v2 + 1))]) [1, 2, 0] rfl (h1 ((v2 + 1), m5) hK)
def f_X11_turn_L57 (v1 : Int32) (v2 : Int32) (m : ej_M) : Option (Int32 × ej_M) := oj_loop (fun q : (Int32 × ej_M) => f_X11_turn_L57b v1 q.1 q.2) oj_FU (v2, m)
set_option maxHeartbeats 4000000 in
set_option maxRecDepth 100000 in
theorem b_X11_turn_L57 (e : Nat) (hd : 6 ≤ e) (v1 : Int32) (v2 : Int32) (m : ej_M) {x : (Int32 × ej_M)} {res : Option Value × ej_H} {K : (Int32 × ej_M) → Prop} (hf : f_X11_turn_L57 v1 v2 m = some x) (hK : K x) (h0 : ∀ q : (Int32 × ej_M), K q → res = (some (Value.int q.1), (ej_sh, q.2))) : ej_Z cX11_turn 3 (some .int) RX11 "turn" (e + 1) 57 [(0, .ref 41), (1, .int v1), (2, .int v2)] [] (ej_sh, m) res :=
  oj_loop_Z (body := fun q : (Int32 × ej_M) => f_X11_turn_L57b v1 q.1 q.2) (P := fun q : (Int32 × ej_M) => ej_Z cX11_turn 3 (some .int) RX11 "turn" (e + 1) 57 [(0, .ref 41), (1, .int v1), (2, .int q.1)] [] (ej_sh, q.2) res) (K := K) (fun s x hb hl hr => b_X11_turn_L57b e hd v1  s.1 s.2 (K := fun x => (∀ s' : (Int32 × ej_M), x = Sum.inl s' → ej_Z cX11_turn 3 (some .int) RX11 "turn" (e + 1) 57 [(0, .ref 41), (1, .int v1), (2, .int s'.1)] [] (ej_sh, s'.2) res) ∧ ∀ e, x = Sum.inr e → K e) hb ⟨hl, hr⟩ (fun q hq => hq.1 q rfl) (fun q hq => h0 q (hq.2 _ rfl))) oj_FU (v2, m) x hf hK
def f_X11_turn (v1 : Int32) (m : ej_M) : Option (Int32 × ej_M) :=
  if v1 < 0 then
    some ((-1), m)
  else
    (oj_dv v1 10).bind fun w1 =>
    (f_X11_isPlace w1 m).bind fun q2 =>
    if q2.1 = 0 then
      some ((-1), q2.2)
    else
      (oj_rm v1 10).bind fun w3 =>
      (f_X11_isPlace w3 q2.2).bind fun q4 =>
      if q4.1 = 0 then
        some ((-1), q4.2)
      else
        (oj_dv v1 10).bind fun w5 =>
        (oj_rm v1 10).bind fun w6 =>
        if w5 < w6 then
          (f_X11_see q4.2).bind fun q7 =>
          (oj_dv v1 10).bind fun w8 =>
          (oj_rm v1 10).bind fun w9 =>
          (f_X11_turnRow w8 w9 q7.2).bind fun q10 =>
          f_X11_turn_L57 v1 0 q10.2
        else
          some ((-1), q4.2)
set_option maxHeartbeats 4000000 in
set_option maxRecDepth 100000 in
theorem b_X11_turn (e : Nat) (hd : 6 ≤ e) (v1 : Int32) (m : ej_M) {x : (Int32 × ej_M)} {res : Option Value × ej_H} {K : (Int32 × ej_M) → Prop} (hf : f_X11_turn v1 m = some x) (hK : K x) (h0 : ∀ q : (Int32 × ej_M), K q → res = (some (Value.int q.1), (ej_sh, q.2))) : ej_Z cX11_turn 3 (some .int) RX11 "turn" (e + 1) 0 [(0, .ref 41), (1, .int v1)] [] (ej_sh, m) res := by
  unfold f_X11_turn at hf
  refine z_iload_n (pc := 0) (i := 1) (j := 1) dX11_turn_0 rfl rfl ?_
  refine z_if_lt (pc := 1) (tgt := 37) dX11_turn_1 (by decide) (fun hc => ?_) (fun hc => ?_)
  · rw [if_pos hc] at hf
    refine z_iconst (pc := 37) dX11_turn_37 ki_n1 ?_
    obtain rfl := Option.some.inj hf
    rw [h0 _ hK]
    exact z_iret dX11_turn_38 rfl rfl
  · rw [if_neg hc] at hf
    refine z_aload_n (pc := 4) (i := 0) (j := 0) dX11_turn_4 rfl rfl ?_
    refine z_iload_n (pc := 5) (i := 1) (j := 1) dX11_turn_5 rfl rfl ?_
    refine z_bipush (pc := 6) dX11_turn_6 kb_10 ?_
    obtain ⟨w1, hw1, hf⟩ := Option.bind_eq_some_iff.mp hf
    refine z_odiv (pc := 8) dX11_turn_8 hw1 ?_
    obtain ⟨q2, hq2, hf⟩ := Option.bind_eq_some_iff.mp hf
    refine z_oVi (pc := 9) (as := [.int w1]) (rest := []) dX11_turn_9 lm_RX11_236 mf_X11_isPlace mi_X11_isPlace mv_X11_isPlace rc_41 rfl rfl (Nat.le_of_ble_eq_true rfl) (c_X11_isPlace e (by omega) w1 m hq2) ?_
    refine z_if_eq (pc := 12) (tgt := 37) dX11_turn_12 (by decide) (fun hc => ?_) (fun hc => ?_)
    · rw [if_pos hc] at hf
      refine z_iconst (pc := 37) dX11_turn_37 ki_n1 ?_
      obtain rfl := Option.some.inj hf
      rw [h0 _ hK]
      exact z_iret dX11_turn_38 rfl rfl
    · rw [if_neg hc] at hf
      refine z_aload_n (pc := 15) (i := 0) (j := 0) dX11_turn_15 rfl rfl ?_
      refine z_iload_n (pc := 16) (i := 1) (j := 1) dX11_turn_16 rfl rfl ?_
      refine z_bipush (pc := 17) dX11_turn_17 kb_10 ?_
      obtain ⟨w3, hw3, hf⟩ := Option.bind_eq_some_iff.mp hf
      refine z_orem (pc := 19) dX11_turn_19 hw3 ?_
      obtain ⟨q4, hq4, hf⟩ := Option.bind_eq_some_iff.mp hf
      refine z_oVi (pc := 20) (as := [.int w3]) (rest := []) dX11_turn_20 lm_RX11_236 mf_X11_isPlace mi_X11_isPlace mv_X11_isPlace rc_41 rfl rfl (Nat.le_of_ble_eq_true rfl) (c_X11_isPlace e (by omega) w3 q2.2 hq4) ?_
      refine z_if_eq (pc := 23) (tgt := 37) dX11_turn_23 (by decide) (fun hc => ?_) (fun hc => ?_)
      · rw [if_pos hc] at hf
        refine z_iconst (pc := 37) dX11_turn_37 ki_n1 ?_
        obtain rfl := Option.some.inj hf
        rw [h0 _ hK]
        exact z_iret dX11_turn_38 rfl rfl
      · rw [if_neg hc] at hf
        refine z_iload_n (pc := 26) (i := 1) (j := 1) dX11_turn_26 rfl rfl ?_
        refine z_bipush (pc := 27) dX11_turn_27 kb_10 ?_
        obtain ⟨w5, hw5, hf⟩ := Option.bind_eq_some_iff.mp hf
        refine z_odiv (pc := 29) dX11_turn_29 hw5 ?_
        refine z_iload_n (pc := 30) (i := 1) (j := 1) dX11_turn_30 rfl rfl ?_
        refine z_bipush (pc := 31) dX11_turn_31 kb_10 ?_
        obtain ⟨w6, hw6, hf⟩ := Option.bind_eq_some_iff.mp hf
        refine z_orem (pc := 33) dX11_turn_33 hw6 ?_
        refine z_icmp_lt (pc := 34) (tgt := 39) dX11_turn_34 (by decide) (fun hc => ?_) (fun hc => ?_)
        · rw [if_pos hc] at hf
          refine z_aload_n (pc := 39) (i := 0) (j := 0) dX11_turn_39 rfl rfl ?_
          obtain ⟨q7, hq7, hf⟩ := Option.bind_eq_some_iff.mp hf
          refine z_oVv (pc := 40) (as := []) (rest := []) dX11_turn_40 lm_RX11_227 mf_X11_see mi_X11_see mv_X11_see rc_41 rfl rfl (Nat.le_of_ble_eq_true rfl) (c_X11_see e (by omega) q4.2 hq7) ?_
          refine z_aload_n (pc := 43) (i := 0) (j := 0) dX11_turn_43 rfl rfl ?_
          refine z_iload_n (pc := 44) (i := 1) (j := 1) dX11_turn_44 rfl rfl ?_
          refine z_bipush (pc := 45) dX11_turn_45 kb_10 ?_
          obtain ⟨w8, hw8, hf⟩ := Option.bind_eq_some_iff.mp hf
          refine z_odiv (pc := 47) dX11_turn_47 hw8 ?_
          refine z_iload_n (pc := 48) (i := 1) (j := 1) dX11_turn_48 rfl rfl ?_
          refine z_bipush (pc := 49) dX11_turn_49 kb_10 ?_
          obtain ⟨w9, hw9, hf⟩ := Option.bind_eq_some_iff.mp hf
          refine z_orem (pc := 51) dX11_turn_51 hw9 ?_
          obtain ⟨q10, hq10, hf⟩ := Option.bind_eq_some_iff.mp hf
          refine z_oVv (pc := 52) (as := [.int w8, .int w9]) (rest := []) dX11_turn_52 lm_RX11_251 mf_X11_turnRow mi_X11_turnRow mv_X11_turnRow rc_41 rfl rfl (Nat.le_of_ble_eq_true rfl) (c_X11_turnRow e (by omega) w8 w9 q7.2 hq10) ?_
          refine z_iconst (pc := 55) dX11_turn_55 ki_0 ?_
          refine z_istore_n (pc := 56) (i := 2) (ls' := [(2, .int 0), (0, .ref 41), (1, .int v1)]) dX11_turn_56 rfl (Nat.le_of_ble_eq_true rfl) rfl ?_
          exact z_pick [1, 2, 0] rfl (b_X11_turn_L57 e hd v1 0 q10.2 (K := K) hf hK  h0)
        · rw [if_neg hc] at hf
          refine z_iconst (pc := 37) dX11_turn_37 ki_n1 ?_
          obtain rfl := Option.some.inj hf
          rw [h0 _ hK]
          exact z_iret dX11_turn_38 rfl rfl
set_option maxHeartbeats 4000000 in
set_option maxRecDepth 100000 in
theorem c_X11_turn (d : Nat) (hd : 7 ≤ d) (v1 : Int32) (m : ej_M) {q : (Int32 × ej_M)} (hf : f_X11_turn v1 m = some q) : ej_Ct yX11_turn cX11_turn 3 (some .int) d [.ref 41, .int v1] (ej_sh, m) ((some (Value.int q.1), (ej_sh, q.2)) : Option Value × ej_H) := by
  obtain ⟨e, rfl⟩ : ∃ e, d = e + 1 := ⟨d - 1, by omega⟩
  exact z_met (by decide +kernel) (Nat.le_of_ble_eq_true rfl) (b_X11_turn e (by omega) v1 m (K := fun z => ((some (Value.int q.1), (ej_sh, q.2)) : Option Value × ej_H) = (some (Value.int z.1), (ej_sh, z.2))) hf rfl (fun _ h => h))
def f_X4_firstUnlawful_L2b (v1 : Nat) (v2 : Int32) (v3 : Int32) (m : ej_M) : Option ((Int32 × ej_M) ⊕ (Int32 × ej_M)) :=
  if v2 ≤ v3 then
    some (Sum.inr ((-2), m))
  else
    (f_X4_isLawfulAt v1 v2 v3 m).bind fun q1 =>
    if q1.1 = 0 then
      some (Sum.inr (v3, q1.2))
    else
      some (Sum.inl ((v3 + 1), q1.2))
set_option maxHeartbeats 4000000 in
set_option maxRecDepth 100000 in
theorem b_X4_firstUnlawful_L2b (e : Nat) (hd : 3 ≤ e) (v1 : Nat) (v2 : Int32) (v3 : Int32) (m : ej_M) {x : ((Int32 × ej_M) ⊕ (Int32 × ej_M))} {res : Option Value × ej_H} {K : ((Int32 × ej_M) ⊕ (Int32 × ej_M)) → Prop} (hf : f_X4_firstUnlawful_L2b v1 v2 v3 m = some x) (hK : K x) (h1 : ∀ q : (Int32 × ej_M), K (Sum.inl q) → ej_Z cX4_firstUnlawful 4 (some .int) RX4 "firstUnlawful" (e + 1) 2 [(0, .ref 6), (1, .ref v1), (2, .int v2), (3, .int q.1)] [] (ej_sh, q.2) res) (h0 : ∀ q : (Int32 × ej_M), K (Sum.inr q) → res = (some (Value.int q.1), (ej_sh, q.2))) : ej_Z cX4_firstUnlawful 4 (some .int) RX4 "firstUnlawful" (e + 1) 2 [(0, .ref 6), (1, .ref v1), (2, .int v2), (3, .int v3)] [] (ej_sh, m) res := by
  unfold f_X4_firstUnlawful_L2b at hf
  refine z_iload_n (pc := 2) (i := 3) (j := 3) dX4_firstUnlawful_2 rfl rfl ?_
  refine z_iload_n (pc := 3) (i := 2) (j := 2) dX4_firstUnlawful_3 rfl rfl ?_
  refine z_icmp_ge (pc := 4) (tgt := 25) dX4_firstUnlawful_4 (by decide) (fun hc => ?_) (fun hc => ?_)
  · rw [if_pos hc] at hf
    refine z_bipush (pc := 25) dX4_firstUnlawful_25 kb_n2 ?_
    obtain rfl := Option.some.inj hf
    rw [h0 _ hK]
    exact z_iret dX4_firstUnlawful_27 rfl rfl
  · rw [if_neg hc] at hf
    refine z_aload_n (pc := 7) (i := 0) (j := 0) dX4_firstUnlawful_7 rfl rfl ?_
    refine z_aload_n (pc := 8) (i := 1) (j := 1) dX4_firstUnlawful_8 rfl rfl ?_
    refine z_iload_n (pc := 9) (i := 2) (j := 2) dX4_firstUnlawful_9 rfl rfl ?_
    refine z_iload_n (pc := 10) (i := 3) (j := 3) dX4_firstUnlawful_10 rfl rfl ?_
    obtain ⟨q1, hq1, hf⟩ := Option.bind_eq_some_iff.mp hf
    refine z_oVi (pc := 11) (as := [.ref v1, .int v2, .int v3]) (rest := []) dX4_firstUnlawful_11 lm_RX4_65 mf_X4_isLawfulAt mi_X4_isLawfulAt mv_X4_isLawfulAt rc_6 rfl rfl (Nat.le_of_ble_eq_true rfl) (c_X4_isLawfulAt e (by omega) v1 v2 v3 m hq1) ?_
    refine z_if_ne (pc := 14) (tgt := 19) dX4_firstUnlawful_14 (by decide) (fun hc => ?_) (fun hc => ?_)
    · rw [if_neg hc] at hf
      refine z_iinc (pc := 19) (j := 3) (ls' := [(3, .int (v3 + 1)), (0, .ref 6), (1, .ref v1), (2, .int v2)]) dX4_firstUnlawful_19 rfl ki_1 (Nat.le_of_ble_eq_true rfl) rfl ?_
      refine z_goto (pc := 22) (tgt := 2) dX4_firstUnlawful_22 (by decide) ?_
      obtain rfl := Option.some.inj hf
      exact z_pick (ls' := [(0, .ref 6), (1, .ref v1), (2, .int v2), (3, .int (v3 + 1))]) [1, 2, 3, 0] rfl (h1 ((v3 + 1), q1.2) hK)
    · rw [if_pos hc] at hf
      refine z_iload_n (pc := 17) (i := 3) (j := 3) dX4_firstUnlawful_17 rfl rfl ?_
      obtain rfl := Option.some.inj hf
      rw [h0 _ hK]
      exact z_iret dX4_firstUnlawful_18 rfl rfl
def f_X4_firstUnlawful_L2 (v1 : Nat) (v2 : Int32) (v3 : Int32) (m : ej_M) : Option (Int32 × ej_M) := oj_loop (fun q : (Int32 × ej_M) => f_X4_firstUnlawful_L2b v1 v2 q.1 q.2) oj_FU (v3, m)
set_option maxHeartbeats 4000000 in
set_option maxRecDepth 100000 in
theorem b_X4_firstUnlawful_L2 (e : Nat) (hd : 3 ≤ e) (v1 : Nat) (v2 : Int32) (v3 : Int32) (m : ej_M) {x : (Int32 × ej_M)} {res : Option Value × ej_H} {K : (Int32 × ej_M) → Prop} (hf : f_X4_firstUnlawful_L2 v1 v2 v3 m = some x) (hK : K x) (h0 : ∀ q : (Int32 × ej_M), K q → res = (some (Value.int q.1), (ej_sh, q.2))) : ej_Z cX4_firstUnlawful 4 (some .int) RX4 "firstUnlawful" (e + 1) 2 [(0, .ref 6), (1, .ref v1), (2, .int v2), (3, .int v3)] [] (ej_sh, m) res :=
  oj_loop_Z (body := fun q : (Int32 × ej_M) => f_X4_firstUnlawful_L2b v1 v2 q.1 q.2) (P := fun q : (Int32 × ej_M) => ej_Z cX4_firstUnlawful 4 (some .int) RX4 "firstUnlawful" (e + 1) 2 [(0, .ref 6), (1, .ref v1), (2, .int v2), (3, .int q.1)] [] (ej_sh, q.2) res) (K := K) (fun s x hb hl hr => b_X4_firstUnlawful_L2b e hd v1 v2  s.1 s.2 (K := fun x => (∀ s' : (Int32 × ej_M), x = Sum.inl s' → ej_Z cX4_firstUnlawful 4 (some .int) RX4 "firstUnlawful" (e + 1) 2 [(0, .ref 6), (1, .ref v1), (2, .int v2), (3, .int s'.1)] [] (ej_sh, s'.2) res) ∧ ∀ e, x = Sum.inr e → K e) hb ⟨hl, hr⟩ (fun q hq => hq.1 q rfl) (fun q hq => h0 q (hq.2 _ rfl))) oj_FU (v3, m) x hf hK
def f_X4_firstUnlawful (v1 : Nat) (v2 : Int32) (m : ej_M) : Option (Int32 × ej_M) :=
  f_X4_firstUnlawful_L2 v1 v2 0 m
set_option maxHeartbeats 4000000 in
set_option maxRecDepth 100000 in
theorem b_X4_firstUnlawful (e : Nat) (hd : 3 ≤ e) (v1 : Nat) (v2 : Int32) (m : ej_M) {x : (Int32 × ej_M)} {res : Option Value × ej_H} {K : (Int32 × ej_M) → Prop} (hf : f_X4_firstUnlawful v1 v2 m = some x) (hK : K x) (h0 : ∀ q : (Int32 × ej_M), K q → res = (some (Value.int q.1), (ej_sh, q.2))) : ej_Z cX4_firstUnlawful 4 (some .int) RX4 "firstUnlawful" (e + 1) 0 [(0, .ref 6), (1, .ref v1), (2, .int v2)] [] (ej_sh, m) res := by
  unfold f_X4_firstUnlawful at hf
  refine z_iconst (pc := 0) dX4_firstUnlawful_0 ki_0 ?_
  refine z_istore_n (pc := 1) (i := 3) (ls' := [(3, .int 0), (0, .ref 6), (1, .ref v1), (2, .int v2)]) dX4_firstUnlawful_1 rfl (Nat.le_of_ble_eq_true rfl) rfl ?_
  exact z_pick [1, 2, 3, 0] rfl (b_X4_firstUnlawful_L2 e hd v1 v2 0 m (K := K) hf hK  h0)
set_option maxHeartbeats 4000000 in
set_option maxRecDepth 100000 in
theorem c_X4_firstUnlawful (d : Nat) (hd : 4 ≤ d) (v1 : Nat) (v2 : Int32) (m : ej_M) {q : (Int32 × ej_M)} (hf : f_X4_firstUnlawful v1 v2 m = some q) : ej_Ct yX4_firstUnlawful cX4_firstUnlawful 4 (some .int) d [.ref 6, .ref v1, .int v2] (ej_sh, m) ((some (Value.int q.1), (ej_sh, q.2)) : Option Value × ej_H) := by
  obtain ⟨e, rfl⟩ : ∃ e, d = e + 1 := ⟨d - 1, by omega⟩
  exact z_met (by decide +kernel) (Nat.le_of_ble_eq_true rfl) (b_X4_firstUnlawful e (by omega) v1 v2 m (K := fun z => ((some (Value.int q.1), (ej_sh, q.2)) : Option Value × ej_H) = (some (Value.int z.1), (ej_sh, z.2))) hf rfl (fun _ h => h))
def f_X10_broken  (m : ej_M) : Option (Int32 × ej_M) :=
  (f_X4_firstUnlawful 8 (m.1 6 4) m).bind fun q1 =>
  some (q1.1, q1.2)
set_option maxHeartbeats 4000000 in
set_option maxRecDepth 100000 in
theorem b_X10_broken (e : Nat) (hd : 4 ≤ e)  (m : ej_M) {x : (Int32 × ej_M)} {res : Option Value × ej_H} {K : (Int32 × ej_M) → Prop} (hf : f_X10_broken  m = some x) (hK : K x) (h0 : ∀ q : (Int32 × ej_M), K q → res = (some (Value.int q.1), (ej_sh, q.2))) : ej_Z cX10_broken 1 (some .int) RX10 "broken" (e + 1) 0 [(0, .ref 0)] [] (ej_sh, m) res := by
  unfold f_X10_broken at hf
  refine z_aload_n (pc := 0) (i := 0) (j := 0) dX10_broken_0 rfl rfl ?_
  refine z_ogetR (pc := 1) dX10_broken_1 lf_RX10_21 sh_0 rfl rfl rfl ?_
  refine z_aload_n (pc := 4) (i := 0) (j := 0) dX10_broken_4 rfl rfl ?_
  refine z_ogetR (pc := 5) dX10_broken_5 lf_RX10_21 sh_0 rfl rfl rfl ?_
  refine z_ogetR (pc := 8) dX10_broken_8 lf_RX10_121 sh_6 rfl rfl rfl ?_
  refine z_aload_n (pc := 11) (i := 0) (j := 0) dX10_broken_11 rfl rfl ?_
  refine z_ogetR (pc := 12) dX10_broken_12 lf_RX10_21 sh_0 rfl rfl rfl ?_
  refine z_ogetI (pc := 15) dX10_broken_15 lf_RX10_136 sh_6 rfl rfl ?_
  obtain ⟨q1, hq1, hf⟩ := Option.bind_eq_some_iff.mp hf
  refine z_oVi (pc := 18) (as := [.ref 8, .int (m.1 6 4)]) (rest := []) dX10_broken_18 lm_RX10_173 mf_X4_firstUnlawful mi_X4_firstUnlawful mv_X4_firstUnlawful rc_6 rfl rfl (Nat.le_of_ble_eq_true rfl) (c_X4_firstUnlawful e (by omega) 8 (m.1 6 4) m hq1) ?_
  obtain rfl := Option.some.inj hf
  rw [h0 _ hK]
  exact z_iret dX10_broken_21 rfl rfl
set_option maxHeartbeats 4000000 in
set_option maxRecDepth 100000 in
theorem c_X10_broken (d : Nat) (hd : 5 ≤ d)  (m : ej_M) {q : (Int32 × ej_M)} (hf : f_X10_broken  m = some q) : ej_Ct yX10_broken cX10_broken 1 (some .int) d [.ref 0] (ej_sh, m) ((some (Value.int q.1), (ej_sh, q.2)) : Option Value × ej_H) := by
  obtain ⟨e, rfl⟩ : ∃ e, d = e + 1 := ⟨d - 1, by omega⟩
  exact z_met (by decide +kernel) (Nat.le_of_ble_eq_true rfl) (b_X10_broken e (by omega)  m (K := fun z => ((some (Value.int q.1), (ej_sh, q.2)) : Option Value × ej_H) = (some (Value.int z.1), (ej_sh, z.2))) hf rfl (fun _ h => h))
def f_X11_broken_L6b (v1 : Int32) (m : ej_M) : Option ((Int32 × ej_M) ⊕ (Int32 × ej_M)) :=
  if (m.1 41 4) ≤ v1 then
    some (Sum.inr ((-2), m))
  else
    (f_X11_isLawfulAt v1 m).bind fun q1 =>
    if q1.1 = 0 then
      some (Sum.inr (v1, q1.2))
    else
      some (Sum.inl ((v1 + 1), q1.2))
set_option maxHeartbeats 4000000 in
set_option maxRecDepth 100000 in
theorem b_X11_broken_L6b (e : Nat) (hd : 3 ≤ e) (v1 : Int32) (m : ej_M) {x : ((Int32 × ej_M) ⊕ (Int32 × ej_M))} {res : Option Value × ej_H} {K : ((Int32 × ej_M) ⊕ (Int32 × ej_M)) → Prop} (hf : f_X11_broken_L6b v1 m = some x) (hK : K x) (h1 : ∀ q : (Int32 × ej_M), K (Sum.inl q) → ej_Z cX11_broken 2 (some .int) RX11 "broken" (e + 1) 6 [(0, .ref 41), (1, .int q.1)] [] (ej_sh, q.2) res) (h0 : ∀ q : (Int32 × ej_M), K (Sum.inr q) → res = (some (Value.int q.1), (ej_sh, q.2))) : ej_Z cX11_broken 2 (some .int) RX11 "broken" (e + 1) 6 [(0, .ref 41), (1, .int v1)] [] (ej_sh, m) res := by
  unfold f_X11_broken_L6b at hf
  refine z_iload_n (pc := 6) (i := 1) (j := 1) dX11_broken_6 rfl rfl ?_
  refine z_aload_n (pc := 7) (i := 0) (j := 0) dX11_broken_7 rfl rfl ?_
  refine z_ogetI (pc := 8) dX11_broken_8 lf_RX11_108 sh_41 rfl rfl ?_
  refine z_icmp_ge (pc := 11) (tgt := 30) dX11_broken_11 (by decide) (fun hc => ?_) (fun hc => ?_)
  · rw [if_pos hc] at hf
    refine z_bipush (pc := 30) dX11_broken_30 kb_n2 ?_
    obtain rfl := Option.some.inj hf
    rw [h0 _ hK]
    exact z_iret dX11_broken_32 rfl rfl
  · rw [if_neg hc] at hf
    refine z_aload_n (pc := 14) (i := 0) (j := 0) dX11_broken_14 rfl rfl ?_
    refine z_iload_n (pc := 15) (i := 1) (j := 1) dX11_broken_15 rfl rfl ?_
    obtain ⟨q1, hq1, hf⟩ := Option.bind_eq_some_iff.mp hf
    refine z_oVi (pc := 16) (as := [.int v1]) (rest := []) dX11_broken_16 lm_RX11_221 mf_X11_isLawfulAt mi_X11_isLawfulAt mv_X11_isLawfulAt rc_41 rfl rfl (Nat.le_of_ble_eq_true rfl) (c_X11_isLawfulAt e (by omega) v1 m hq1) ?_
    refine z_if_ne (pc := 19) (tgt := 24) dX11_broken_19 (by decide) (fun hc => ?_) (fun hc => ?_)
    · rw [if_neg hc] at hf
      refine z_iinc (pc := 24) (j := 1) (ls' := [(1, .int (v1 + 1)), (0, .ref 41)]) dX11_broken_24 rfl ki_1 (Nat.le_of_ble_eq_true rfl) rfl ?_
      refine z_goto (pc := 27) (tgt := 6) dX11_broken_27 (by decide) ?_
      obtain rfl := Option.some.inj hf
      exact z_pick (ls' := [(0, .ref 41), (1, .int (v1 + 1))]) [1, 0] rfl (h1 ((v1 + 1), q1.2) hK)
    · rw [if_pos hc] at hf
      refine z_iload_n (pc := 22) (i := 1) (j := 1) dX11_broken_22 rfl rfl ?_
      obtain rfl := Option.some.inj hf
      rw [h0 _ hK]
      exact z_iret dX11_broken_23 rfl rfl
def f_X11_broken_L6 (v1 : Int32) (m : ej_M) : Option (Int32 × ej_M) := oj_loop (fun q : (Int32 × ej_M) => f_X11_broken_L6b q.1 q.2) oj_FU (v1, m)
set_option maxHeartbeats 4000000 in
set_option maxRecDepth 100000 in
theorem b_X11_broken_L6 (e : Nat) (hd : 3 ≤ e) (v1 : Int32) (m : ej_M) {x : (Int32 × ej_M)} {res : Option Value × ej_H} {K : (Int32 × ej_M) → Prop} (hf : f_X11_broken_L6 v1 m = some x) (hK : K x) (h0 : ∀ q : (Int32 × ej_M), K q → res = (some (Value.int q.1), (ej_sh, q.2))) : ej_Z cX11_broken 2 (some .int) RX11 "broken" (e + 1) 6 [(0, .ref 41), (1, .int v1)] [] (ej_sh, m) res :=
  oj_loop_Z (body := fun q : (Int32 × ej_M) => f_X11_broken_L6b q.1 q.2) (P := fun q : (Int32 × ej_M) => ej_Z cX11_broken 2 (some .int) RX11 "broken" (e + 1) 6 [(0, .ref 41), (1, .int q.1)] [] (ej_sh, q.2) res) (K := K) (fun s x hb hl hr => b_X11_broken_L6b e hd  s.1 s.2 (K := fun x => (∀ s' : (Int32 × ej_M), x = Sum.inl s' → ej_Z cX11_broken 2 (some .int) RX11 "broken" (e + 1) 6 [(0, .ref 41), (1, .int s'.1)] [] (ej_sh, s'.2) res) ∧ ∀ e, x = Sum.inr e → K e) hb ⟨hl, hr⟩ (fun q hq => hq.1 q rfl) (fun q hq => h0 q (hq.2 _ rfl))) oj_FU (v1, m) x hf hK
def f_X11_broken  (m : ej_M) : Option (Int32 × ej_M) :=
  (f_X11_see m).bind fun q1 =>
  f_X11_broken_L6 0 q1.2
set_option maxHeartbeats 4000000 in
set_option maxRecDepth 100000 in
theorem b_X11_broken (e : Nat) (hd : 3 ≤ e)  (m : ej_M) {x : (Int32 × ej_M)} {res : Option Value × ej_H} {K : (Int32 × ej_M) → Prop} (hf : f_X11_broken  m = some x) (hK : K x) (h0 : ∀ q : (Int32 × ej_M), K q → res = (some (Value.int q.1), (ej_sh, q.2))) : ej_Z cX11_broken 2 (some .int) RX11 "broken" (e + 1) 0 [(0, .ref 41)] [] (ej_sh, m) res := by
  unfold f_X11_broken at hf
  refine z_aload_n (pc := 0) (i := 0) (j := 0) dX11_broken_0 rfl rfl ?_
  obtain ⟨q1, hq1, hf⟩ := Option.bind_eq_some_iff.mp hf
  refine z_oVv (pc := 1) (as := []) (rest := []) dX11_broken_1 lm_RX11_227 mf_X11_see mi_X11_see mv_X11_see rc_41 rfl rfl (Nat.le_of_ble_eq_true rfl) (c_X11_see e (by omega) m hq1) ?_
  refine z_iconst (pc := 4) dX11_broken_4 ki_0 ?_
  refine z_istore_n (pc := 5) (i := 1) (ls' := [(1, .int 0), (0, .ref 41)]) dX11_broken_5 rfl (Nat.le_of_ble_eq_true rfl) rfl ?_
  exact z_pick [1, 0] rfl (b_X11_broken_L6 e hd 0 q1.2 (K := K) hf hK  h0)
set_option maxHeartbeats 4000000 in
set_option maxRecDepth 100000 in
theorem c_X11_broken (d : Nat) (hd : 4 ≤ d)  (m : ej_M) {q : (Int32 × ej_M)} (hf : f_X11_broken  m = some q) : ej_Ct yX11_broken cX11_broken 2 (some .int) d [.ref 41] (ej_sh, m) ((some (Value.int q.1), (ej_sh, q.2)) : Option Value × ej_H) := by
  obtain ⟨e, rfl⟩ : ∃ e, d = e + 1 := ⟨d - 1, by omega⟩
  exact z_met (by decide +kernel) (Nat.le_of_ble_eq_true rfl) (b_X11_broken e (by omega)  m (K := fun z => ((some (Value.int q.1), (ej_sh, q.2)) : Option Value × ej_H) = (some (Value.int z.1), (ej_sh, z.2))) hf rfl (fun _ h => h))
def f_X8_beginAnew  (m : ej_M) : Option (Unit × ej_M) :=
  (f_X10_copy 8 16 (m.1 6 4) m).bind fun q1 =>
  some ((), q1.2)
set_option maxHeartbeats 4000000 in
set_option maxRecDepth 100000 in
theorem b_X8_beginAnew (e : Nat) (hd : 1 ≤ e)  (m : ej_M) {x : (Unit × ej_M)} {res : Option Value × ej_H} {K : (Unit × ej_M) → Prop} (hf : f_X8_beginAnew  m = some x) (hK : K x) (h0 : ∀ q : (Unit × ej_M), K q → res = (none, (ej_sh, q.2))) : ej_Z cX8_beginAnew 1 none RX8 "beginAnew" (e + 1) 0 [(0, .ref 15)] [] (ej_sh, m) res := by
  unfold f_X8_beginAnew at hf
  refine z_aload_n (pc := 0) (i := 0) (j := 0) dX8_beginAnew_0 rfl rfl ?_
  refine z_ogetR (pc := 1) dX8_beginAnew_1 lf_RX8_18 sh_15 rfl rfl rfl ?_
  refine z_ogetR (pc := 4) dX8_beginAnew_4 lf_RX8_22 sh_6 rfl rfl rfl ?_
  refine z_aload_n (pc := 7) (i := 0) (j := 0) dX8_beginAnew_7 rfl rfl ?_
  refine z_ogetR (pc := 8) dX8_beginAnew_8 lf_RX8_9 sh_15 rfl rfl rfl ?_
  refine z_aload_n (pc := 11) (i := 0) (j := 0) dX8_beginAnew_11 rfl rfl ?_
  refine z_ogetR (pc := 12) dX8_beginAnew_12 lf_RX8_18 sh_15 rfl rfl rfl ?_
  refine z_ogetI (pc := 15) dX8_beginAnew_15 lf_RX8_27 sh_6 rfl rfl ?_
  obtain ⟨q1, hq1, hf⟩ := Option.bind_eq_some_iff.mp hf
  refine z_oSv (pc := 18) (as := [.ref 8, .ref 16, .int (m.1 6 4)]) (rest := []) dX8_beginAnew_18 lm_RX8_31 mf_X10_copy ms_X10_copy rfl rfl (Nat.le_of_ble_eq_true rfl) (c_X10_copy e (by omega) 8 16 (m.1 6 4) m hq1) ?_
  obtain rfl := Option.some.inj hf
  rw [h0 _ hK]
  exact z_ret dX8_beginAnew_21 rfl
set_option maxHeartbeats 4000000 in
set_option maxRecDepth 100000 in
theorem c_X8_beginAnew (d : Nat) (hd : 2 ≤ d)  (m : ej_M) {q : (Unit × ej_M)} (hf : f_X8_beginAnew  m = some q) : ej_Ct yX8_beginAnew cX8_beginAnew 1 none d [.ref 15] (ej_sh, m) ((none, (ej_sh, q.2)) : Option Value × ej_H) := by
  obtain ⟨e, rfl⟩ : ∃ e, d = e + 1 := ⟨d - 1, by omega⟩
  exact z_met (by decide +kernel) (Nat.le_of_ble_eq_true rfl) (b_X8_beginAnew e (by omega)  m (K := fun z => ((none, (ej_sh, q.2)) : Option Value × ej_H) = (none, (ej_sh, z.2))) hf rfl (fun _ h => h))
def f_X8_mayBeSold_L12b (v2 : Int32) (v1 : Int32) (v3 : Int32) (m : ej_M) : Option ((Int32 × Int32 × ej_M) ⊕ (Int32 × ej_M)) :=
  if v2 ≤ v3 then
    some (Sum.inr (v1, m))
  else
    (f_X8_beginAnew m).bind fun q1 =>
    (f_X10_remove 16 v2 v3 q1.2).bind fun q2 =>
    (f_X4_isLawful 16 (v2 - 1) q2.2).bind fun q3 =>
    if q3.1 = 0 then
      some (Sum.inl (v1, (v3 + 1), q3.2))
    else
      (f_X10_at 8 v3 q3.2).bind fun q4 =>
      some (Sum.inl ((v1 ||| (1 <<< (q4.1 &&& 31))), (v3 + 1), q4.2))
set_option maxHeartbeats 4000000 in
set_option maxRecDepth 100000 in
theorem b_X8_mayBeSold_L12b (e : Nat) (hd : 4 ≤ e) (v2 : Int32) (v1 : Int32) (v3 : Int32) (m : ej_M) {x : ((Int32 × Int32 × ej_M) ⊕ (Int32 × ej_M))} {res : Option Value × ej_H} {K : ((Int32 × Int32 × ej_M) ⊕ (Int32 × ej_M)) → Prop} (hf : f_X8_mayBeSold_L12b v2 v1 v3 m = some x) (hK : K x) (h1 : ∀ q : (Int32 × Int32 × ej_M), K (Sum.inl q) → ej_Z cX8_mayBeSold 4 (some .int) RX8 "mayBeSold" (e + 1) 12 [(0, .ref 15), (1, .int q.1), (2, .int v2), (3, .int q.2.1)] [] (ej_sh, q.2.2) res) (h0 : ∀ q : (Int32 × ej_M), K (Sum.inr q) → res = (some (Value.int q.1), (ej_sh, q.2))) : ej_Z cX8_mayBeSold 4 (some .int) RX8 "mayBeSold" (e + 1) 12 [(0, .ref 15), (1, .int v1), (2, .int v2), (3, .int v3)] [] (ej_sh, m) res := by
  unfold f_X8_mayBeSold_L12b at hf
  refine z_iload_n (pc := 12) (i := 3) (j := 3) dX8_mayBeSold_12 rfl rfl ?_
  refine z_iload_n (pc := 13) (i := 2) (j := 2) dX8_mayBeSold_13 rfl rfl ?_
  refine z_icmp_ge (pc := 14) (tgt := 69) dX8_mayBeSold_14 (by decide) (fun hc => ?_) (fun hc => ?_)
  · rw [if_pos hc] at hf
    refine z_iload_n (pc := 69) (i := 1) (j := 1) dX8_mayBeSold_69 rfl rfl ?_
    obtain rfl := Option.some.inj hf
    rw [h0 _ hK]
    exact z_iret dX8_mayBeSold_70 rfl rfl
  · rw [if_neg hc] at hf
    refine z_aload_n (pc := 17) (i := 0) (j := 0) dX8_mayBeSold_17 rfl rfl ?_
    obtain ⟨q1, hq1, hf⟩ := Option.bind_eq_some_iff.mp hf
    refine z_oVv (pc := 18) (as := []) (rest := []) dX8_mayBeSold_18 lm_RX8_35 mf_X8_beginAnew mi_X8_beginAnew mv_X8_beginAnew rc_15 rfl rfl (Nat.le_of_ble_eq_true rfl) (c_X8_beginAnew e (by omega) m hq1) ?_
    refine z_aload_n (pc := 21) (i := 0) (j := 0) dX8_mayBeSold_21 rfl rfl ?_
    refine z_ogetR (pc := 22) dX8_mayBeSold_22 lf_RX8_9 sh_15 rfl rfl rfl ?_
    refine z_iload_n (pc := 25) (i := 2) (j := 2) dX8_mayBeSold_25 rfl rfl ?_
    refine z_iload_n (pc := 26) (i := 3) (j := 3) dX8_mayBeSold_26 rfl rfl ?_
    obtain ⟨q2, hq2, hf⟩ := Option.bind_eq_some_iff.mp hf
    refine z_oSv (pc := 27) (as := [.ref 16, .int v2, .int v3]) (rest := []) dX8_mayBeSold_27 lm_RX8_38 mf_X10_remove ms_X10_remove rfl rfl (Nat.le_of_ble_eq_true rfl) (c_X10_remove e (by omega) 16 v2 v3 q1.2 hq2) ?_
    refine z_aload_n (pc := 30) (i := 0) (j := 0) dX8_mayBeSold_30 rfl rfl ?_
    refine z_ogetR (pc := 31) dX8_mayBeSold_31 lf_RX8_18 sh_15 rfl rfl rfl ?_
    refine z_aload_n (pc := 34) (i := 0) (j := 0) dX8_mayBeSold_34 rfl rfl ?_
    refine z_ogetR (pc := 35) dX8_mayBeSold_35 lf_RX8_9 sh_15 rfl rfl rfl ?_
    refine z_iload_n (pc := 38) (i := 2) (j := 2) dX8_mayBeSold_38 rfl rfl ?_
    refine z_iconst (pc := 39) dX8_mayBeSold_39 ki_1 ?_
    refine z_isub (pc := 40) dX8_mayBeSold_40 ?_
    obtain ⟨q3, hq3, hf⟩ := Option.bind_eq_some_iff.mp hf
    refine z_oVi (pc := 41) (as := [.ref 16, .int (v2 - 1)]) (rest := []) dX8_mayBeSold_41 lm_RX8_42 mf_X4_isLawful mi_X4_isLawful mv_X4_isLawful rc_6 rfl rfl (Nat.le_of_ble_eq_true rfl) (c_X4_isLawful e (by omega) 16 (v2 - 1) q2.2 hq3) ?_
    refine z_if_eq (pc := 44) (tgt := 63) dX8_mayBeSold_44 (by decide) (fun hc => ?_) (fun hc => ?_)
    · rw [if_pos hc] at hf
      refine z_iinc (pc := 63) (j := 3) (ls' := [(3, .int (v3 + 1)), (0, .ref 15), (1, .int v1), (2, .int v2)]) dX8_mayBeSold_63 rfl ki_1 (Nat.le_of_ble_eq_true rfl) rfl ?_
      refine z_goto (pc := 66) (tgt := 12) dX8_mayBeSold_66 (by decide) ?_
      obtain rfl := Option.some.inj hf
      exact z_pick (ls' := [(0, .ref 15), (1, .int v1), (2, .int v2), (3, .int (v3 + 1))]) [1, 2, 3, 0] rfl (h1 (v1, (v3 + 1), q3.2) hK)
    · rw [if_neg hc] at hf
      refine z_iload_n (pc := 47) (i := 1) (j := 1) dX8_mayBeSold_47 rfl rfl ?_
      refine z_iconst (pc := 48) dX8_mayBeSold_48 ki_1 ?_
      refine z_aload_n (pc := 49) (i := 0) (j := 0) dX8_mayBeSold_49 rfl rfl ?_
      refine z_ogetR (pc := 50) dX8_mayBeSold_50 lf_RX8_18 sh_15 rfl rfl rfl ?_
      refine z_ogetR (pc := 53) dX8_mayBeSold_53 lf_RX8_22 sh_6 rfl rfl rfl ?_
      refine z_iload_n (pc := 56) (i := 3) (j := 3) dX8_mayBeSold_56 rfl rfl ?_
      obtain ⟨q4, hq4, hf⟩ := Option.bind_eq_some_iff.mp hf
      refine z_oSi (pc := 57) (as := [.ref 8, .int v3]) (rest := [.int 1, .int v1]) dX8_mayBeSold_57 lm_RX8_46 mf_X10_at ms_X10_at rfl rfl (Nat.le_of_ble_eq_true rfl) (c_X10_at e (by omega) 8 v3 q3.2 hq4) ?_
      refine z_ishl (pc := 60) dX8_mayBeSold_60 ?_
      refine z_ior (pc := 61) dX8_mayBeSold_61 ?_
      refine z_istore_n (pc := 62) (i := 1) (ls' := [(1, .int (v1 ||| (1 <<< (q4.1 &&& 31)))), (0, .ref 15), (2, .int v2), (3, .int v3)]) dX8_mayBeSold_62 rfl (Nat.le_of_ble_eq_true rfl) rfl ?_
      refine z_iinc (pc := 63) (j := 3) (ls' := [(3, .int (v3 + 1)), (1, .int (v1 ||| (1 <<< (q4.1 &&& 31)))), (0, .ref 15), (2, .int v2)]) dX8_mayBeSold_63 rfl ki_1 (Nat.le_of_ble_eq_true rfl) rfl ?_
      refine z_goto (pc := 66) (tgt := 12) dX8_mayBeSold_66 (by decide) ?_
      obtain rfl := Option.some.inj hf
      exact z_pick (ls' := [(0, .ref 15), (1, .int (v1 ||| (1 <<< (q4.1 &&& 31)))), (2, .int v2), (3, .int (v3 + 1))]) [2, 1, 3, 0] rfl (h1 ((v1 ||| (1 <<< (q4.1 &&& 31))), (v3 + 1), q4.2) hK)
def f_X8_mayBeSold_L12 (v2 : Int32) (v1 : Int32) (v3 : Int32) (m : ej_M) : Option (Int32 × ej_M) := oj_loop (fun q : (Int32 × Int32 × ej_M) => f_X8_mayBeSold_L12b v2 q.1 q.2.1 q.2.2) oj_FU (v1, v3, m)
set_option maxHeartbeats 4000000 in
set_option maxRecDepth 100000 in
theorem b_X8_mayBeSold_L12 (e : Nat) (hd : 4 ≤ e) (v2 : Int32) (v1 : Int32) (v3 : Int32) (m : ej_M) {x : (Int32 × ej_M)} {res : Option Value × ej_H} {K : (Int32 × ej_M) → Prop} (hf : f_X8_mayBeSold_L12 v2 v1 v3 m = some x) (hK : K x) (h0 : ∀ q : (Int32 × ej_M), K q → res = (some (Value.int q.1), (ej_sh, q.2))) : ej_Z cX8_mayBeSold 4 (some .int) RX8 "mayBeSold" (e + 1) 12 [(0, .ref 15), (1, .int v1), (2, .int v2), (3, .int v3)] [] (ej_sh, m) res :=
  oj_loop_Z (body := fun q : (Int32 × Int32 × ej_M) => f_X8_mayBeSold_L12b v2 q.1 q.2.1 q.2.2) (P := fun q : (Int32 × Int32 × ej_M) => ej_Z cX8_mayBeSold 4 (some .int) RX8 "mayBeSold" (e + 1) 12 [(0, .ref 15), (1, .int q.1), (2, .int v2), (3, .int q.2.1)] [] (ej_sh, q.2.2) res) (K := K) (fun s x hb hl hr => b_X8_mayBeSold_L12b e hd v2  s.1 s.2.1 s.2.2 (K := fun x => (∀ s' : (Int32 × Int32 × ej_M), x = Sum.inl s' → ej_Z cX8_mayBeSold 4 (some .int) RX8 "mayBeSold" (e + 1) 12 [(0, .ref 15), (1, .int s'.1), (2, .int v2), (3, .int s'.2.1)] [] (ej_sh, s'.2.2) res) ∧ ∀ e, x = Sum.inr e → K e) hb ⟨hl, hr⟩ (fun q hq => hq.1 q rfl) (fun q hq => h0 q (hq.2 _ rfl))) oj_FU (v1, v3, m) x hf hK
def f_X8_mayBeSold  (m : ej_M) : Option (Int32 × ej_M) :=
  f_X8_mayBeSold_L12 (m.1 6 4) 0 0 m
set_option maxHeartbeats 4000000 in
set_option maxRecDepth 100000 in
theorem b_X8_mayBeSold (e : Nat) (hd : 4 ≤ e)  (m : ej_M) {x : (Int32 × ej_M)} {res : Option Value × ej_H} {K : (Int32 × ej_M) → Prop} (hf : f_X8_mayBeSold  m = some x) (hK : K x) (h0 : ∀ q : (Int32 × ej_M), K q → res = (some (Value.int q.1), (ej_sh, q.2))) : ej_Z cX8_mayBeSold 4 (some .int) RX8 "mayBeSold" (e + 1) 0 [(0, .ref 15)] [] (ej_sh, m) res := by
  unfold f_X8_mayBeSold at hf
  refine z_iconst (pc := 0) dX8_mayBeSold_0 ki_0 ?_
  refine z_istore_n (pc := 1) (i := 1) (ls' := [(1, .int 0), (0, .ref 15)]) dX8_mayBeSold_1 rfl (Nat.le_of_ble_eq_true rfl) rfl ?_
  refine z_aload_n (pc := 2) (i := 0) (j := 1) dX8_mayBeSold_2 rfl rfl ?_
  refine z_ogetR (pc := 3) dX8_mayBeSold_3 lf_RX8_18 sh_15 rfl rfl rfl ?_
  refine z_ogetI (pc := 6) dX8_mayBeSold_6 lf_RX8_27 sh_6 rfl rfl ?_
  refine z_istore_n (pc := 9) (i := 2) (ls' := [(2, .int (m.1 6 4)), (1, .int 0), (0, .ref 15)]) dX8_mayBeSold_9 rfl (Nat.le_of_ble_eq_true rfl) rfl ?_
  refine z_iconst (pc := 10) dX8_mayBeSold_10 ki_0 ?_
  refine z_istore_n (pc := 11) (i := 3) (ls' := [(3, .int 0), (2, .int (m.1 6 4)), (1, .int 0), (0, .ref 15)]) dX8_mayBeSold_11 rfl (Nat.le_of_ble_eq_true rfl) rfl ?_
  exact z_pick [3, 2, 1, 0] rfl (b_X8_mayBeSold_L12 e hd (m.1 6 4) 0 0 m (K := K) hf hK  h0)
set_option maxHeartbeats 4000000 in
set_option maxRecDepth 100000 in
theorem c_X8_mayBeSold (d : Nat) (hd : 5 ≤ d)  (m : ej_M) {q : (Int32 × ej_M)} (hf : f_X8_mayBeSold  m = some q) : ej_Ct yX8_mayBeSold cX8_mayBeSold 4 (some .int) d [.ref 15] (ej_sh, m) ((some (Value.int q.1), (ej_sh, q.2)) : Option Value × ej_H) := by
  obtain ⟨e, rfl⟩ : ∃ e, d = e + 1 := ⟨d - 1, by omega⟩
  exact z_met (by decide +kernel) (Nat.le_of_ble_eq_true rfl) (b_X8_mayBeSold e (by omega)  m (K := fun z => ((some (Value.int q.1), (ej_sh, q.2)) : Option Value × ej_H) = (some (Value.int z.1), (ej_sh, z.2))) hf rfl (fun _ h => h))
def f_X10_maySell  (m : ej_M) : Option (Int32 × ej_M) :=
  (f_X8_mayBeSold m).bind fun q1 =>
  some (q1.1, q1.2)
set_option maxHeartbeats 4000000 in
set_option maxRecDepth 100000 in
theorem b_X10_maySell (e : Nat) (hd : 5 ≤ e)  (m : ej_M) {x : (Int32 × ej_M)} {res : Option Value × ej_H} {K : (Int32 × ej_M) → Prop} (hf : f_X10_maySell  m = some x) (hK : K x) (h0 : ∀ q : (Int32 × ej_M), K q → res = (some (Value.int q.1), (ej_sh, q.2))) : ej_Z cX10_maySell 1 (some .int) RX10 "maySell" (e + 1) 0 [(0, .ref 0)] [] (ej_sh, m) res := by
  unfold f_X10_maySell at hf
  refine z_aload_n (pc := 0) (i := 0) (j := 0) dX10_maySell_0 rfl rfl ?_
  refine z_ogetR (pc := 1) dX10_maySell_1 lf_RX10_37 sh_0 rfl rfl rfl ?_
  obtain ⟨q1, hq1, hf⟩ := Option.bind_eq_some_iff.mp hf
  refine z_oVi (pc := 4) (as := []) (rest := []) dX10_maySell_4 lm_RX10_176 mf_X8_mayBeSold mi_X8_mayBeSold mv_X8_mayBeSold rc_15 rfl rfl (Nat.le_of_ble_eq_true rfl) (c_X8_mayBeSold e (by omega) m hq1) ?_
  obtain rfl := Option.some.inj hf
  rw [h0 _ hK]
  exact z_iret dX10_maySell_7 rfl rfl
set_option maxHeartbeats 4000000 in
set_option maxRecDepth 100000 in
theorem c_X10_maySell (d : Nat) (hd : 6 ≤ d)  (m : ej_M) {q : (Int32 × ej_M)} (hf : f_X10_maySell  m = some q) : ej_Ct yX10_maySell cX10_maySell 1 (some .int) d [.ref 0] (ej_sh, m) ((some (Value.int q.1), (ej_sh, q.2)) : Option Value × ej_H) := by
  obtain ⟨e, rfl⟩ : ∃ e, d = e + 1 := ⟨d - 1, by omega⟩
  exact z_met (by decide +kernel) (Nat.le_of_ble_eq_true rfl) (b_X10_maySell e (by omega)  m (K := fun z => ((some (Value.int q.1), (ej_sh, q.2)) : Option Value × ej_H) = (some (Value.int z.1), (ej_sh, z.2))) hf rfl (fun _ h => h))
def f_X11_lookWithout_L7b (v1 : Int32) (v2 : Int32) (m : ej_M) : Option ((Int32 × ej_M) ⊕ (Unit × ej_M)) :=
  if (m.1 41 4) ≤ v2 then
    some (Sum.inr ((), m))
  else
    (oj_ld 0 m 43 v2).bind fun w1 =>
    if ((v1 >>> (w1 &&& 31)) &&& 1) = 1 then
      some (Sum.inl ((v2 + 1), m))
    else
      (oj_ld 0 m 43 v2).bind fun w2 =>
      (oj_st 0 m 56 (m.1 41 29) w2).bind fun m3 =>
      (oj_pf m3 41 29 ((m3.1 41 29) + 1)).bind fun m4 =>
      some (Sum.inl ((v2 + 1), m4))
set_option maxHeartbeats 4000000 in
set_option maxRecDepth 100000 in
theorem b_X11_lookWithout_L7b (d : Nat) (v1 : Int32) (v2 : Int32) (m : ej_M) {x : ((Int32 × ej_M) ⊕ (Unit × ej_M))} {res : Option Value × ej_H} {K : ((Int32 × ej_M) ⊕ (Unit × ej_M)) → Prop} (hf : f_X11_lookWithout_L7b v1 v2 m = some x) (hK : K x) (h1 : ∀ q : (Int32 × ej_M), K (Sum.inl q) → ej_Z cX11_lookWithout 3 none RX11 "lookWithout" d 7 [(0, .ref 41), (1, .int v1), (2, .int q.1)] [] (ej_sh, q.2) res) (h0 : ∀ q : (Unit × ej_M), K (Sum.inr q) → res = (none, (ej_sh, q.2))) : ej_Z cX11_lookWithout 3 none RX11 "lookWithout" d 7 [(0, .ref 41), (1, .int v1), (2, .int v2)] [] (ej_sh, m) res := by
  unfold f_X11_lookWithout_L7b at hf
  refine z_iload_n (pc := 7) (i := 2) (j := 2) dX11_lookWithout_7 rfl rfl ?_
  refine z_aload_n (pc := 8) (i := 0) (j := 0) dX11_lookWithout_8 rfl rfl ?_
  refine z_ogetI (pc := 9) dX11_lookWithout_9 lf_RX11_108 sh_41 rfl rfl ?_
  refine z_icmp_ge (pc := 12) (tgt := 63) dX11_lookWithout_12 (by decide) (fun hc => ?_) (fun hc => ?_)
  · rw [if_pos hc] at hf
    obtain rfl := Option.some.inj hf
    rw [h0 _ hK]
    exact z_ret dX11_lookWithout_63 rfl
  · rw [if_neg hc] at hf
    refine z_iload_n (pc := 15) (i := 1) (j := 1) dX11_lookWithout_15 rfl rfl ?_
    refine z_aload_n (pc := 16) (i := 0) (j := 0) dX11_lookWithout_16 rfl rfl ?_
    refine z_ogetR (pc := 17) dX11_lookWithout_17 lf_RX11_13 sh_41 rfl rfl rfl ?_
    refine z_iload_n (pc := 20) (i := 2) (j := 2) dX11_lookWithout_20 rfl rfl ?_
    obtain ⟨w1, hw1, hf⟩ := Option.bind_eq_some_iff.mp hf
    refine z_oiald (pc := 21) dX11_lookWithout_21 hw1 ?_
    refine z_ishr (pc := 22) dX11_lookWithout_22 ?_
    refine z_iconst (pc := 23) dX11_lookWithout_23 ki_1 ?_
    refine z_iand (pc := 24) dX11_lookWithout_24 ?_
    refine z_iconst (pc := 25) dX11_lookWithout_25 ki_1 ?_
    refine z_icmp_ne (pc := 26) (tgt := 32) dX11_lookWithout_26 (by decide) (fun hc => ?_) (fun hc => ?_)
    · rw [if_neg hc] at hf
      refine z_aload_n (pc := 32) (i := 0) (j := 0) dX11_lookWithout_32 rfl rfl ?_
      refine z_ogetR (pc := 33) dX11_lookWithout_33 lf_RX11_54 sh_41 rfl rfl rfl ?_
      refine z_aload_n (pc := 36) (i := 0) (j := 0) dX11_lookWithout_36 rfl rfl ?_
      refine z_ogetI (pc := 37) dX11_lookWithout_37 lf_RX11_212 sh_41 rfl rfl ?_
      refine z_aload_n (pc := 40) (i := 0) (j := 0) dX11_lookWithout_40 rfl rfl ?_
      refine z_ogetR (pc := 41) dX11_lookWithout_41 lf_RX11_13 sh_41 rfl rfl rfl ?_
      refine z_iload_n (pc := 44) (i := 2) (j := 2) dX11_lookWithout_44 rfl rfl ?_
      obtain ⟨w2, hw2, hf⟩ := Option.bind_eq_some_iff.mp hf
      refine z_oiald (pc := 45) dX11_lookWithout_45 hw2 ?_
      obtain ⟨m3, hm3, hf⟩ := Option.bind_eq_some_iff.mp hf
      refine z_oiast (pc := 46) dX11_lookWithout_46 hm3 ?_
      refine z_aload_n (pc := 47) (i := 0) (j := 0) dX11_lookWithout_47 rfl rfl ?_
      refine z_dup (pc := 48) dX11_lookWithout_48 rfl ?_
      refine z_ogetI (pc := 49) dX11_lookWithout_49 lf_RX11_212 sh_41 rfl rfl ?_
      refine z_iconst (pc := 52) dX11_lookWithout_52 ki_1 ?_
      refine z_iadd (pc := 53) dX11_lookWithout_53 ?_
      obtain ⟨m4, hm4, hf⟩ := Option.bind_eq_some_iff.mp hf
      refine z_oputI (pc := 54) dX11_lookWithout_54 lf_RX11_212 sh_41 rfl hm4 ?_
      refine z_iinc (pc := 57) (j := 2) (ls' := [(2, .int (v2 + 1)), (0, .ref 41), (1, .int v1)]) dX11_lookWithout_57 rfl ki_1 (Nat.le_of_ble_eq_true rfl) rfl ?_
      refine z_goto (pc := 60) (tgt := 7) dX11_lookWithout_60 (by decide) ?_
      obtain rfl := Option.some.inj hf
      exact z_pick (ls' := [(0, .ref 41), (1, .int v1), (2, .int (v2 + 1))]) [1, 2, 0] rfl (h1 ((v2 + 1), m4) hK)
    · rw [if_pos hc] at hf
      refine z_goto (pc := 29) (tgt := 57) dX11_lookWithout_29 (by decide) ?_
      refine z_iinc (pc := 57) (j := 2) (ls' := [(2, .int (v2 + 1)), (0, .ref 41), (1, .int v1)]) dX11_lookWithout_57 rfl ki_1 (Nat.le_of_ble_eq_true rfl) rfl ?_
      refine z_goto (pc := 60) (tgt := 7) dX11_lookWithout_60 (by decide) ?_
      obtain rfl := Option.some.inj hf
      exact z_pick (ls' := [(0, .ref 41), (1, .int v1), (2, .int (v2 + 1))]) [1, 2, 0] rfl (h1 ((v2 + 1), m) hK)
def f_X11_lookWithout_L7 (v1 : Int32) (v2 : Int32) (m : ej_M) : Option (Unit × ej_M) := oj_loop (fun q : (Int32 × ej_M) => f_X11_lookWithout_L7b v1 q.1 q.2) oj_FU (v2, m)
set_option maxHeartbeats 4000000 in
set_option maxRecDepth 100000 in
theorem b_X11_lookWithout_L7 (d : Nat) (v1 : Int32) (v2 : Int32) (m : ej_M) {x : (Unit × ej_M)} {res : Option Value × ej_H} {K : (Unit × ej_M) → Prop} (hf : f_X11_lookWithout_L7 v1 v2 m = some x) (hK : K x) (h0 : ∀ q : (Unit × ej_M), K q → res = (none, (ej_sh, q.2))) : ej_Z cX11_lookWithout 3 none RX11 "lookWithout" d 7 [(0, .ref 41), (1, .int v1), (2, .int v2)] [] (ej_sh, m) res :=
  oj_loop_Z (body := fun q : (Int32 × ej_M) => f_X11_lookWithout_L7b v1 q.1 q.2) (P := fun q : (Int32 × ej_M) => ej_Z cX11_lookWithout 3 none RX11 "lookWithout" d 7 [(0, .ref 41), (1, .int v1), (2, .int q.1)] [] (ej_sh, q.2) res) (K := K) (fun s x hb hl hr => b_X11_lookWithout_L7b d v1  s.1 s.2 (K := fun x => (∀ s' : (Int32 × ej_M), x = Sum.inl s' → ej_Z cX11_lookWithout 3 none RX11 "lookWithout" d 7 [(0, .ref 41), (1, .int v1), (2, .int s'.1)] [] (ej_sh, s'.2) res) ∧ ∀ e, x = Sum.inr e → K e) hb ⟨hl, hr⟩ (fun q hq => hq.1 q rfl) (fun q hq => h0 q (hq.2 _ rfl))) oj_FU (v2, m) x hf hK
def f_X11_lookWithout (v1 : Int32) (m : ej_M) : Option (Unit × ej_M) :=
  (oj_pf m 41 29 0).bind fun m1 =>
  f_X11_lookWithout_L7 v1 0 m1
set_option maxHeartbeats 4000000 in
set_option maxRecDepth 100000 in
theorem b_X11_lookWithout (d : Nat) (v1 : Int32) (m : ej_M) {x : (Unit × ej_M)} {res : Option Value × ej_H} {K : (Unit × ej_M) → Prop} (hf : f_X11_lookWithout v1 m = some x) (hK : K x) (h0 : ∀ q : (Unit × ej_M), K q → res = (none, (ej_sh, q.2))) : ej_Z cX11_lookWithout 3 none RX11 "lookWithout" d 0 [(0, .ref 41), (1, .int v1)] [] (ej_sh, m) res := by
  unfold f_X11_lookWithout at hf
  refine z_aload_n (pc := 0) (i := 0) (j := 0) dX11_lookWithout_0 rfl rfl ?_
  refine z_iconst (pc := 1) dX11_lookWithout_1 ki_0 ?_
  obtain ⟨m1, hm1, hf⟩ := Option.bind_eq_some_iff.mp hf
  refine z_oputI (pc := 2) dX11_lookWithout_2 lf_RX11_212 sh_41 rfl hm1 ?_
  refine z_iconst (pc := 5) dX11_lookWithout_5 ki_0 ?_
  refine z_istore_n (pc := 6) (i := 2) (ls' := [(2, .int 0), (0, .ref 41), (1, .int v1)]) dX11_lookWithout_6 rfl (Nat.le_of_ble_eq_true rfl) rfl ?_
  exact z_pick [1, 2, 0] rfl (b_X11_lookWithout_L7 d v1 0 m1 (K := K) hf hK  h0)
set_option maxHeartbeats 4000000 in
set_option maxRecDepth 100000 in
theorem c_X11_lookWithout (d : Nat) (hd : 0 ≤ d) (v1 : Int32) (m : ej_M) {q : (Unit × ej_M)} (hf : f_X11_lookWithout v1 m = some q) : ej_Ct yX11_lookWithout cX11_lookWithout 3 none d [.ref 41, .int v1] (ej_sh, m) ((none, (ej_sh, q.2)) : Option Value × ej_H) := by
  exact z_met (by decide +kernel) (Nat.le_of_ble_eq_true rfl) (b_X11_lookWithout d v1 m (K := fun z => ((none, (ej_sh, q.2)) : Option Value × ej_H) = (none, (ej_sh, z.2))) hf rfl (fun _ h => h))
def f_X11_maySell_L4b (v1 : Int32) (v2 : Int32) (m : ej_M) : Option ((Int32 × Int32 × ej_M) ⊕ (Int32 × ej_M)) :=
  if (m.1 41 4) ≤ v2 then
    some (Sum.inr (v1, m))
  else
    (oj_ld 0 m 43 v2).bind fun w1 =>
    (f_X11_lookWithout (1 <<< (w1 &&& 31)) m).bind fun q2 =>
    (f_X11_isLawful q2.2).bind fun q3 =>
    if q3.1 = 0 then
      some (Sum.inl (v1, (v2 + 1), q3.2))
    else
      (oj_ld 0 q3.2 43 v2).bind fun w4 =>
      some (Sum.inl ((v1 ||| (1 <<< (w4 &&& 31))), (v2 + 1), q3.2))
set_option maxHeartbeats 4000000 in
set_option maxRecDepth 100000 in
theorem b_X11_maySell_L4b (e : Nat) (hd : 4 ≤ e) (v1 : Int32) (v2 : Int32) (m : ej_M) {x : ((Int32 × Int32 × ej_M) ⊕ (Int32 × ej_M))} {res : Option Value × ej_H} {K : ((Int32 × Int32 × ej_M) ⊕ (Int32 × ej_M)) → Prop} (hf : f_X11_maySell_L4b v1 v2 m = some x) (hK : K x) (h1 : ∀ q : (Int32 × Int32 × ej_M), K (Sum.inl q) → ej_Z cX11_maySell 3 (some .int) RX11 "maySell" (e + 1) 4 [(0, .ref 41), (1, .int q.1), (2, .int q.2.1)] [] (ej_sh, q.2.2) res) (h0 : ∀ q : (Int32 × ej_M), K (Sum.inr q) → res = (some (Value.int q.1), (ej_sh, q.2))) : ej_Z cX11_maySell 3 (some .int) RX11 "maySell" (e + 1) 4 [(0, .ref 41), (1, .int v1), (2, .int v2)] [] (ej_sh, m) res := by
  unfold f_X11_maySell_L4b at hf
  refine z_iload_n (pc := 4) (i := 2) (j := 2) dX11_maySell_4 rfl rfl ?_
  refine z_aload_n (pc := 5) (i := 0) (j := 0) dX11_maySell_5 rfl rfl ?_
  refine z_ogetI (pc := 6) dX11_maySell_6 lf_RX11_108 sh_41 rfl rfl ?_
  refine z_icmp_ge (pc := 9) (tgt := 48) dX11_maySell_9 (by decide) (fun hc => ?_) (fun hc => ?_)
  · rw [if_pos hc] at hf
    refine z_iload_n (pc := 48) (i := 1) (j := 1) dX11_maySell_48 rfl rfl ?_
    obtain rfl := Option.some.inj hf
    rw [h0 _ hK]
    exact z_iret dX11_maySell_49 rfl rfl
  · rw [if_neg hc] at hf
    refine z_aload_n (pc := 12) (i := 0) (j := 0) dX11_maySell_12 rfl rfl ?_
    refine z_iconst (pc := 13) dX11_maySell_13 ki_1 ?_
    refine z_aload_n (pc := 14) (i := 0) (j := 0) dX11_maySell_14 rfl rfl ?_
    refine z_ogetR (pc := 15) dX11_maySell_15 lf_RX11_13 sh_41 rfl rfl rfl ?_
    refine z_iload_n (pc := 18) (i := 2) (j := 2) dX11_maySell_18 rfl rfl ?_
    obtain ⟨w1, hw1, hf⟩ := Option.bind_eq_some_iff.mp hf
    refine z_oiald (pc := 19) dX11_maySell_19 hw1 ?_
    refine z_ishl (pc := 20) dX11_maySell_20 ?_
    obtain ⟨q2, hq2, hf⟩ := Option.bind_eq_some_iff.mp hf
    refine z_oVv (pc := 21) (as := [.int (1 <<< (w1 &&& 31))]) (rest := []) dX11_maySell_21 lm_RX11_254 mf_X11_lookWithout mi_X11_lookWithout mv_X11_lookWithout rc_41 rfl rfl (Nat.le_of_ble_eq_true rfl) (c_X11_lookWithout e (by omega) (1 <<< (w1 &&& 31)) m hq2) ?_
    refine z_aload_n (pc := 24) (i := 0) (j := 0) dX11_maySell_24 rfl rfl ?_
    obtain ⟨q3, hq3, hf⟩ := Option.bind_eq_some_iff.mp hf
    refine z_oVi (pc := 25) (as := []) (rest := []) dX11_maySell_25 lm_RX11_230 mf_X11_isLawful mi_X11_isLawful mv_X11_isLawful rc_41 rfl rfl (Nat.le_of_ble_eq_true rfl) (c_X11_isLawful e (by omega) q2.2 hq3) ?_
    refine z_if_eq (pc := 28) (tgt := 42) dX11_maySell_28 (by decide) (fun hc => ?_) (fun hc => ?_)
    · rw [if_pos hc] at hf
      refine z_iinc (pc := 42) (j := 2) (ls' := [(2, .int (v2 + 1)), (0, .ref 41), (1, .int v1)]) dX11_maySell_42 rfl ki_1 (Nat.le_of_ble_eq_true rfl) rfl ?_
      refine z_goto (pc := 45) (tgt := 4) dX11_maySell_45 (by decide) ?_
      obtain rfl := Option.some.inj hf
      exact z_pick (ls' := [(0, .ref 41), (1, .int v1), (2, .int (v2 + 1))]) [1, 2, 0] rfl (h1 (v1, (v2 + 1), q3.2) hK)
    · rw [if_neg hc] at hf
      refine z_iload_n (pc := 31) (i := 1) (j := 1) dX11_maySell_31 rfl rfl ?_
      refine z_iconst (pc := 32) dX11_maySell_32 ki_1 ?_
      refine z_aload_n (pc := 33) (i := 0) (j := 0) dX11_maySell_33 rfl rfl ?_
      refine z_ogetR (pc := 34) dX11_maySell_34 lf_RX11_13 sh_41 rfl rfl rfl ?_
      refine z_iload_n (pc := 37) (i := 2) (j := 2) dX11_maySell_37 rfl rfl ?_
      obtain ⟨w4, hw4, hf⟩ := Option.bind_eq_some_iff.mp hf
      refine z_oiald (pc := 38) dX11_maySell_38 hw4 ?_
      refine z_ishl (pc := 39) dX11_maySell_39 ?_
      refine z_ior (pc := 40) dX11_maySell_40 ?_
      refine z_istore_n (pc := 41) (i := 1) (ls' := [(1, .int (v1 ||| (1 <<< (w4 &&& 31)))), (0, .ref 41), (2, .int v2)]) dX11_maySell_41 rfl (Nat.le_of_ble_eq_true rfl) rfl ?_
      refine z_iinc (pc := 42) (j := 2) (ls' := [(2, .int (v2 + 1)), (1, .int (v1 ||| (1 <<< (w4 &&& 31)))), (0, .ref 41)]) dX11_maySell_42 rfl ki_1 (Nat.le_of_ble_eq_true rfl) rfl ?_
      refine z_goto (pc := 45) (tgt := 4) dX11_maySell_45 (by decide) ?_
      obtain rfl := Option.some.inj hf
      exact z_pick (ls' := [(0, .ref 41), (1, .int (v1 ||| (1 <<< (w4 &&& 31)))), (2, .int (v2 + 1))]) [2, 1, 0] rfl (h1 ((v1 ||| (1 <<< (w4 &&& 31))), (v2 + 1), q3.2) hK)
def f_X11_maySell_L4 (v1 : Int32) (v2 : Int32) (m : ej_M) : Option (Int32 × ej_M) := oj_loop (fun q : (Int32 × Int32 × ej_M) => f_X11_maySell_L4b q.1 q.2.1 q.2.2) oj_FU (v1, v2, m)
set_option maxHeartbeats 4000000 in
set_option maxRecDepth 100000 in
theorem b_X11_maySell_L4 (e : Nat) (hd : 4 ≤ e) (v1 : Int32) (v2 : Int32) (m : ej_M) {x : (Int32 × ej_M)} {res : Option Value × ej_H} {K : (Int32 × ej_M) → Prop} (hf : f_X11_maySell_L4 v1 v2 m = some x) (hK : K x) (h0 : ∀ q : (Int32 × ej_M), K q → res = (some (Value.int q.1), (ej_sh, q.2))) : ej_Z cX11_maySell 3 (some .int) RX11 "maySell" (e + 1) 4 [(0, .ref 41), (1, .int v1), (2, .int v2)] [] (ej_sh, m) res :=
  oj_loop_Z (body := fun q : (Int32 × Int32 × ej_M) => f_X11_maySell_L4b q.1 q.2.1 q.2.2) (P := fun q : (Int32 × Int32 × ej_M) => ej_Z cX11_maySell 3 (some .int) RX11 "maySell" (e + 1) 4 [(0, .ref 41), (1, .int q.1), (2, .int q.2.1)] [] (ej_sh, q.2.2) res) (K := K) (fun s x hb hl hr => b_X11_maySell_L4b e hd  s.1 s.2.1 s.2.2 (K := fun x => (∀ s' : (Int32 × Int32 × ej_M), x = Sum.inl s' → ej_Z cX11_maySell 3 (some .int) RX11 "maySell" (e + 1) 4 [(0, .ref 41), (1, .int s'.1), (2, .int s'.2.1)] [] (ej_sh, s'.2.2) res) ∧ ∀ e, x = Sum.inr e → K e) hb ⟨hl, hr⟩ (fun q hq => hq.1 q rfl) (fun q hq => h0 q (hq.2 _ rfl))) oj_FU (v1, v2, m) x hf hK
def f_X11_maySell  (m : ej_M) : Option (Int32 × ej_M) :=
  f_X11_maySell_L4 0 0 m
set_option maxHeartbeats 4000000 in
set_option maxRecDepth 100000 in
theorem b_X11_maySell (e : Nat) (hd : 4 ≤ e)  (m : ej_M) {x : (Int32 × ej_M)} {res : Option Value × ej_H} {K : (Int32 × ej_M) → Prop} (hf : f_X11_maySell  m = some x) (hK : K x) (h0 : ∀ q : (Int32 × ej_M), K q → res = (some (Value.int q.1), (ej_sh, q.2))) : ej_Z cX11_maySell 3 (some .int) RX11 "maySell" (e + 1) 0 [(0, .ref 41)] [] (ej_sh, m) res := by
  unfold f_X11_maySell at hf
  refine z_iconst (pc := 0) dX11_maySell_0 ki_0 ?_
  refine z_istore_n (pc := 1) (i := 1) (ls' := [(1, .int 0), (0, .ref 41)]) dX11_maySell_1 rfl (Nat.le_of_ble_eq_true rfl) rfl ?_
  refine z_iconst (pc := 2) dX11_maySell_2 ki_0 ?_
  refine z_istore_n (pc := 3) (i := 2) (ls' := [(2, .int 0), (1, .int 0), (0, .ref 41)]) dX11_maySell_3 rfl (Nat.le_of_ble_eq_true rfl) rfl ?_
  exact z_pick [2, 1, 0] rfl (b_X11_maySell_L4 e hd 0 0 m (K := K) hf hK  h0)
set_option maxHeartbeats 4000000 in
set_option maxRecDepth 100000 in
theorem c_X11_maySell (d : Nat) (hd : 5 ≤ d)  (m : ej_M) {q : (Int32 × ej_M)} (hf : f_X11_maySell  m = some q) : ej_Ct yX11_maySell cX11_maySell 3 (some .int) d [.ref 41] (ej_sh, m) ((some (Value.int q.1), (ej_sh, q.2)) : Option Value × ej_H) := by
  obtain ⟨e, rfl⟩ : ∃ e, d = e + 1 := ⟨d - 1, by omega⟩
  exact z_met (by decide +kernel) (Nat.le_of_ble_eq_true rfl) (b_X11_maySell e (by omega)  m (K := fun z => ((some (Value.int q.1), (ej_sh, q.2)) : Option Value × ej_H) = (some (Value.int z.1), (ej_sh, z.2))) hf rfl (fun _ h => h))
