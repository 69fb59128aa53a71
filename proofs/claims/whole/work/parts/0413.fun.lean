def f_X11_setting (v1 : Int32) (v2 : Int32) (m : ej_M) : Option (Int32 × ej_M) :=
  (oj_ld 0 m 64 v1).bind fun w1 =>
  if w1 = 5 then
    (f_X11_ran 60 m).bind fun q5 =>
    (f_X11_holdingSets v1 v2 q5.2).bind fun q6 =>
    (f_X11_standsOf v1 2 q6.2).bind fun q7 =>
    some ((q6.1 - q7.1), q7.2)
  else
    (oj_ld 0 m 64 v1).bind fun w2 =>
    if w2 = 3 then
      (f_X11_holdingSets v1 v2 m).bind fun q4 =>
      some (q4.1, q4.2)
    else
      (f_X11_plainSets v1 v2 m).bind fun q3 =>
      some (q3.1, q3.2)
set_option maxHeartbeats 4000000 in
set_option maxRecDepth 100000 in
theorem b_X11_setting (e : Nat) (hd : 3 ≤ e) (v1 : Int32) (v2 : Int32) (m : ej_M) {x : (Int32 × ej_M)} {res : Option Value × ej_H} {K : (Int32 × ej_M) → Prop} (hf : f_X11_setting v1 v2 m = some x) (hK : K x) (h0 : ∀ q : (Int32 × ej_M), K q → res = (some (Value.int q.1), (ej_sh, q.2))) : ej_Z cX11_setting 4 (some .int) RX11 "setting" (e + 1) 0 [(0, .ref 41), (1, .int v1), (2, .int v2)] [] (ej_sh, m) res := by
  unfold f_X11_setting at hf
  refine z_aload_n (pc := 0) (i := 0) (j := 0) dX11_setting_0 rfl rfl ?_
  refine z_ogetR (pc := 1) dX11_setting_1 lf_RX11_78 sh_41 rfl rfl rfl ?_
  refine z_iload_n (pc := 4) (i := 1) (j := 1) dX11_setting_4 rfl rfl ?_
  obtain ⟨w1, hw1, hf⟩ := Option.bind_eq_some_iff.mp hf
  refine z_oiald (pc := 5) dX11_setting_5 hw1 ?_
  refine z_iconst (pc := 6) dX11_setting_6 ki_5 ?_
  refine z_icmp_ne (pc := 7) (tgt := 32) dX11_setting_7 (by decide) (fun hc => ?_) (fun hc => ?_)
  · rw [if_neg hc] at hf
    refine z_aload_n (pc := 32) (i := 0) (j := 0) dX11_setting_32 rfl rfl ?_
    refine z_ogetR (pc := 33) dX11_setting_33 lf_RX11_78 sh_41 rfl rfl rfl ?_
    refine z_iload_n (pc := 36) (i := 1) (j := 1) dX11_setting_36 rfl rfl ?_
    obtain ⟨w2, hw2, hf⟩ := Option.bind_eq_some_iff.mp hf
    refine z_oiald (pc := 37) dX11_setting_37 hw2 ?_
    refine z_iconst (pc := 38) dX11_setting_38 ki_3 ?_
    refine z_icmp_ne (pc := 39) (tgt := 51) dX11_setting_39 (by decide) (fun hc => ?_) (fun hc => ?_)
    · rw [if_neg hc] at hf
      refine z_aload_n (pc := 51) (i := 0) (j := 0) dX11_setting_51 rfl rfl ?_
      refine z_iload_n (pc := 52) (i := 1) (j := 1) dX11_setting_52 rfl rfl ?_
      refine z_iload_n (pc := 53) (i := 2) (j := 2) dX11_setting_53 rfl rfl ?_
      obtain ⟨q3, hq3, hf⟩ := Option.bind_eq_some_iff.mp hf
      refine z_oVi (pc := 54) (as := [.int v1, .int v2]) (rest := []) dX11_setting_54 lm_RX11_368 mf_X11_plainSets mi_X11_plainSets mv_X11_plainSets rc_41 rfl rfl (Nat.le_of_ble_eq_true rfl) (c_X11_plainSets e (by omega) v1 v2 m hq3) ?_
      obtain rfl := Option.some.inj hf
      rw [h0 _ hK]
      exact z_iret dX11_setting_57 rfl rfl
    · rw [if_pos hc] at hf
      refine z_aload_n (pc := 42) (i := 0) (j := 0) dX11_setting_42 rfl rfl ?_
      refine z_iload_n (pc := 43) (i := 1) (j := 1) dX11_setting_43 rfl rfl ?_
      refine z_iload_n (pc := 44) (i := 2) (j := 2) dX11_setting_44 rfl rfl ?_
      obtain ⟨q4, hq4, hf⟩ := Option.bind_eq_some_iff.mp hf
      refine z_oVi (pc := 45) (as := [.int v1, .int v2]) (rest := []) dX11_setting_45 lm_RX11_371 mf_X11_holdingSets mi_X11_holdingSets mv_X11_holdingSets rc_41 rfl rfl (Nat.le_of_ble_eq_true rfl) (c_X11_holdingSets e (by omega) v1 v2 m hq4) ?_
      refine z_goto (pc := 48) (tgt := 57) dX11_setting_48 (by decide) ?_
      obtain rfl := Option.some.inj hf
      rw [h0 _ hK]
      exact z_iret dX11_setting_57 rfl rfl
  · rw [if_pos hc] at hf
    refine z_aload_n (pc := 10) (i := 0) (j := 0) dX11_setting_10 rfl rfl ?_
    refine z_bipush (pc := 11) dX11_setting_11 kb_60 ?_
    obtain ⟨q5, hq5, hf⟩ := Option.bind_eq_some_iff.mp hf
    refine z_oVv (pc := 13) (as := [.int 60]) (rest := []) dX11_setting_13 lm_RX11_344 mf_X11_ran mi_X11_ran mv_X11_ran rc_41 rfl rfl (Nat.le_of_ble_eq_true rfl) (c_X11_ran e (by omega) 60 m hq5) ?_
    refine z_aload_n (pc := 16) (i := 0) (j := 0) dX11_setting_16 rfl rfl ?_
    refine z_iload_n (pc := 17) (i := 1) (j := 1) dX11_setting_17 rfl rfl ?_
    refine z_iload_n (pc := 18) (i := 2) (j := 2) dX11_setting_18 rfl rfl ?_
    obtain ⟨q6, hq6, hf⟩ := Option.bind_eq_some_iff.mp hf
    refine z_oVi (pc := 19) (as := [.int v1, .int v2]) (rest := []) dX11_setting_19 lm_RX11_371 mf_X11_holdingSets mi_X11_holdingSets mv_X11_holdingSets rc_41 rfl rfl (Nat.le_of_ble_eq_true rfl) (c_X11_holdingSets e (by omega) v1 v2 q5.2 hq6) ?_
    refine z_istore_n (pc := 22) (i := 3) (ls' := [(3, .int q6.1), (0, .ref 41), (1, .int v1), (2, .int v2)]) dX11_setting_22 rfl (Nat.le_of_ble_eq_true rfl) rfl ?_
    refine z_iload_n (pc := 23) (i := 3) (j := 0) dX11_setting_23 rfl rfl ?_
    refine z_aload_n (pc := 24) (i := 0) (j := 1) dX11_setting_24 rfl rfl ?_
    refine z_iload_n (pc := 25) (i := 1) (j := 2) dX11_setting_25 rfl rfl ?_
    refine z_iconst (pc := 26) dX11_setting_26 ki_2 ?_
    obtain ⟨q7, hq7, hf⟩ := Option.bind_eq_some_iff.mp hf
    refine z_oVi (pc := 27) (as := [.int v1, .int 2]) (rest := [.int q6.1]) dX11_setting_27 lm_RX11_356 mf_X11_standsOf mi_X11_standsOf mv_X11_standsOf rc_41 rfl rfl (Nat.le_of_ble_eq_true rfl) (c_X11_standsOf e (by omega) v1 2 q6.2 hq7) ?_
    refine z_isub (pc := 30) dX11_setting_30 ?_
    obtain rfl := Option.some.inj hf
    rw [h0 _ hK]
    exact z_iret dX11_setting_31 rfl rfl
set_option maxHeartbeats 4000000 in
set_option maxRecDepth 100000 in
theorem c_X11_setting (d : Nat) (hd : 4 ≤ d) (v1 : Int32) (v2 : Int32) (m : ej_M) {q : (Int32 × ej_M)} (hf : f_X11_setting v1 v2 m = some q) : ej_Ct yX11_setting cX11_setting 4 (some .int) d [.ref 41, .int v1, .int v2] (ej_sh, m) ((some (Value.int q.1), (ej_sh, q.2)) : Option Value × ej_H) := by
  obtain ⟨e, rfl⟩ : ∃ e, d = e + 1 := ⟨d - 1, by omega⟩
  exact z_met (by decide +kernel) (Nat.le_of_ble_eq_true rfl) (b_X11_setting e (by omega) v1 v2 m (K := fun z => ((some (Value.int q.1), (ej_sh, q.2)) : Option Value × ej_H) = (some (Value.int z.1), (ej_sh, z.2))) hf rfl (fun _ h => h))
def f_X11_holding (v1 : Int32) (v2 : Int32) (m : ej_M) : Option (Int32 × ej_M) :=
  (oj_ld 0 m 64 v1).bind fun w1 =>
  (f_X11_isUnder w1 3 m).bind fun q2 =>
  if q2.1 = 0 then
    (oj_ld 0 q2.2 64 v1).bind fun w3 =>
    if w3 = 7 then
      (f_X11_ran 80 q2.2).bind fun q7 =>
      (f_X11_plainHolds v1 v2 q7.2).bind fun q8 =>
      (f_X11_setting v1 2 q8.2).bind fun q9 =>
      some ((q8.1 + q9.1), q9.2)
    else
      (oj_ld 0 q2.2 64 v1).bind fun w4 =>
      if w4 = 2 then
        (f_X11_heldHolds v1 v2 q2.2).bind fun q6 =>
        some (q6.1, q6.2)
      else
        (f_X11_plainHolds v1 v2 q2.2).bind fun q5 =>
        some (q5.1, q5.2)
  else
    (f_X11_ran 41 q2.2).bind fun q10 =>
    (f_X11_heldHolds v1 (v2 + 1) q10.2).bind fun q11 =>
    some (q11.1, q11.2)
set_option maxHeartbeats 4000000 in
set_option maxRecDepth 100000 in
theorem b_X11_holding (e : Nat) (hd : 5 ≤ e) (v1 : Int32) (v2 : Int32) (m : ej_M) {x : (Int32 × ej_M)} {res : Option Value × ej_H} {K : (Int32 × ej_M) → Prop} (hf : f_X11_holding v1 v2 m = some x) (hK : K x) (h0 : ∀ q : (Int32 × ej_M), K q → res = (some (Value.int q.1), (ej_sh, q.2))) : ej_Z cX11_holding 4 (some .int) RX11 "holding" (e + 1) 0 [(0, .ref 41), (1, .int v1), (2, .int v2)] [] (ej_sh, m) res := by
  unfold f_X11_holding at hf
  refine z_aload_n (pc := 0) (i := 0) (j := 0) dX11_holding_0 rfl rfl ?_
  refine z_ogetR (pc := 1) dX11_holding_1 lf_RX11_78 sh_41 rfl rfl rfl ?_
  refine z_iload_n (pc := 4) (i := 1) (j := 1) dX11_holding_4 rfl rfl ?_
  obtain ⟨w1, hw1, hf⟩ := Option.bind_eq_some_iff.mp hf
  refine z_oiald (pc := 5) dX11_holding_5 hw1 ?_
  refine z_iconst (pc := 6) dX11_holding_6 ki_3 ?_
  obtain ⟨q2, hq2, hf⟩ := Option.bind_eq_some_iff.mp hf
  refine z_oSi (pc := 7) (as := [.int w1, .int 3]) (rest := []) dX11_holding_7 lm_RX11_350 mf_X11_isUnder ms_X11_isUnder rfl rfl (Nat.le_of_ble_eq_true rfl) (c_X11_isUnder e (by omega) w1 3 m hq2) ?_
  refine z_if_eq (pc := 10) (tgt := 28) dX11_holding_10 (by decide) (fun hc => ?_) (fun hc => ?_)
  · rw [if_pos hc] at hf
    refine z_aload_n (pc := 28) (i := 0) (j := 0) dX11_holding_28 rfl rfl ?_
    refine z_ogetR (pc := 29) dX11_holding_29 lf_RX11_78 sh_41 rfl rfl rfl ?_
    refine z_iload_n (pc := 32) (i := 1) (j := 1) dX11_holding_32 rfl rfl ?_
    obtain ⟨w3, hw3, hf⟩ := Option.bind_eq_some_iff.mp hf
    refine z_oiald (pc := 33) dX11_holding_33 hw3 ?_
    refine z_bipush (pc := 34) dX11_holding_34 kb_7 ?_
    refine z_icmp_ne (pc := 36) (tgt := 61) dX11_holding_36 (by decide) (fun hc => ?_) (fun hc => ?_)
    · rw [if_neg hc] at hf
      refine z_aload_n (pc := 61) (i := 0) (j := 0) dX11_holding_61 rfl rfl ?_
      refine z_ogetR (pc := 62) dX11_holding_62 lf_RX11_78 sh_41 rfl rfl rfl ?_
      refine z_iload_n (pc := 65) (i := 1) (j := 1) dX11_holding_65 rfl rfl ?_
      obtain ⟨w4, hw4, hf⟩ := Option.bind_eq_some_iff.mp hf
      refine z_oiald (pc := 66) dX11_holding_66 hw4 ?_
      refine z_iconst (pc := 67) dX11_holding_67 ki_2 ?_
      refine z_icmp_ne (pc := 68) (tgt := 80) dX11_holding_68 (by decide) (fun hc => ?_) (fun hc => ?_)
      · rw [if_neg hc] at hf
        refine z_aload_n (pc := 80) (i := 0) (j := 0) dX11_holding_80 rfl rfl ?_
        refine z_iload_n (pc := 81) (i := 1) (j := 1) dX11_holding_81 rfl rfl ?_
        refine z_iload_n (pc := 82) (i := 2) (j := 2) dX11_holding_82 rfl rfl ?_
        obtain ⟨q5, hq5, hf⟩ := Option.bind_eq_some_iff.mp hf
        refine z_oVi (pc := 83) (as := [.int v1, .int v2]) (rest := []) dX11_holding_83 lm_RX11_359 mf_X11_plainHolds mi_X11_plainHolds mv_X11_plainHolds rc_41 rfl rfl (Nat.le_of_ble_eq_true rfl) (c_X11_plainHolds e (by omega) v1 v2 q2.2 hq5) ?_
        obtain rfl := Option.some.inj hf
        rw [h0 _ hK]
        exact z_iret dX11_holding_86 rfl rfl
      · rw [if_pos hc] at hf
        refine z_aload_n (pc := 71) (i := 0) (j := 0) dX11_holding_71 rfl rfl ?_
        refine z_iload_n (pc := 72) (i := 1) (j := 1) dX11_holding_72 rfl rfl ?_
        refine z_iload_n (pc := 73) (i := 2) (j := 2) dX11_holding_73 rfl rfl ?_
        obtain ⟨q6, hq6, hf⟩ := Option.bind_eq_some_iff.mp hf
        refine z_oVi (pc := 74) (as := [.int v1, .int v2]) (rest := []) dX11_holding_74 lm_RX11_362 mf_X11_heldHolds mi_X11_heldHolds mv_X11_heldHolds rc_41 rfl rfl (Nat.le_of_ble_eq_true rfl) (c_X11_heldHolds e (by omega) v1 v2 q2.2 hq6) ?_
        refine z_goto (pc := 77) (tgt := 86) dX11_holding_77 (by decide) ?_
        obtain rfl := Option.some.inj hf
        rw [h0 _ hK]
        exact z_iret dX11_holding_86 rfl rfl
    · rw [if_pos hc] at hf
      refine z_aload_n (pc := 39) (i := 0) (j := 0) dX11_holding_39 rfl rfl ?_
      refine z_bipush (pc := 40) dX11_holding_40 kb_80 ?_
      obtain ⟨q7, hq7, hf⟩ := Option.bind_eq_some_iff.mp hf
      refine z_oVv (pc := 42) (as := [.int 80]) (rest := []) dX11_holding_42 lm_RX11_344 mf_X11_ran mi_X11_ran mv_X11_ran rc_41 rfl rfl (Nat.le_of_ble_eq_true rfl) (c_X11_ran e (by omega) 80 q2.2 hq7) ?_
      refine z_aload_n (pc := 45) (i := 0) (j := 0) dX11_holding_45 rfl rfl ?_
      refine z_iload_n (pc := 46) (i := 1) (j := 1) dX11_holding_46 rfl rfl ?_
      refine z_iload_n (pc := 47) (i := 2) (j := 2) dX11_holding_47 rfl rfl ?_
      obtain ⟨q8, hq8, hf⟩ := Option.bind_eq_some_iff.mp hf
      refine z_oVi (pc := 48) (as := [.int v1, .int v2]) (rest := []) dX11_holding_48 lm_RX11_359 mf_X11_plainHolds mi_X11_plainHolds mv_X11_plainHolds rc_41 rfl rfl (Nat.le_of_ble_eq_true rfl) (c_X11_plainHolds e (by omega) v1 v2 q7.2 hq8) ?_
      refine z_istore_n (pc := 51) (i := 3) (ls' := [(3, .int q8.1), (0, .ref 41), (1, .int v1), (2, .int v2)]) dX11_holding_51 rfl (Nat.le_of_ble_eq_true rfl) rfl ?_
      refine z_iload_n (pc := 52) (i := 3) (j := 0) dX11_holding_52 rfl rfl ?_
      refine z_aload_n (pc := 53) (i := 0) (j := 1) dX11_holding_53 rfl rfl ?_
      refine z_iload_n (pc := 54) (i := 1) (j := 2) dX11_holding_54 rfl rfl ?_
      refine z_iconst (pc := 55) dX11_holding_55 ki_2 ?_
      obtain ⟨q9, hq9, hf⟩ := Option.bind_eq_some_iff.mp hf
      refine z_oVi (pc := 56) (as := [.int v1, .int 2]) (rest := [.int q8.1]) dX11_holding_56 lm_RX11_365 mf_X11_setting mi_X11_setting mv_X11_setting rc_41 rfl rfl (Nat.le_of_ble_eq_true rfl) (c_X11_setting e (by omega) v1 2 q8.2 hq9) ?_
      refine z_iadd (pc := 59) dX11_holding_59 ?_
      obtain rfl := Option.some.inj hf
      rw [h0 _ hK]
      exact z_iret dX11_holding_60 rfl rfl
  · rw [if_neg hc] at hf
    refine z_aload_n (pc := 13) (i := 0) (j := 0) dX11_holding_13 rfl rfl ?_
    refine z_bipush (pc := 14) dX11_holding_14 kb_41 ?_
    obtain ⟨q10, hq10, hf⟩ := Option.bind_eq_some_iff.mp hf
    refine z_oVv (pc := 16) (as := [.int 41]) (rest := []) dX11_holding_16 lm_RX11_344 mf_X11_ran mi_X11_ran mv_X11_ran rc_41 rfl rfl (Nat.le_of_ble_eq_true rfl) (c_X11_ran e (by omega) 41 q2.2 hq10) ?_
    refine z_aload_n (pc := 19) (i := 0) (j := 0) dX11_holding_19 rfl rfl ?_
    refine z_iload_n (pc := 20) (i := 1) (j := 1) dX11_holding_20 rfl rfl ?_
    refine z_iload_n (pc := 21) (i := 2) (j := 2) dX11_holding_21 rfl rfl ?_
    refine z_iconst (pc := 22) dX11_holding_22 ki_1 ?_
    refine z_iadd (pc := 23) dX11_holding_23 ?_
    obtain ⟨q11, hq11, hf⟩ := Option.bind_eq_some_iff.mp hf
    refine z_oVi (pc := 24) (as := [.int v1, .int (v2 + 1)]) (rest := []) dX11_holding_24 lm_RX11_362 mf_X11_heldHolds mi_X11_heldHolds mv_X11_heldHolds rc_41 rfl rfl (Nat.le_of_ble_eq_true rfl) (c_X11_heldHolds e (by omega) v1 (v2 + 1) q10.2 hq11) ?_
    obtain rfl := Option.some.inj hf
    rw [h0 _ hK]
    exact z_iret dX11_holding_27 rfl rfl
set_option maxHeartbeats 4000000 in
set_option maxRecDepth 100000 in
theorem c_X11_holding (d : Nat) (hd : 6 ≤ d) (v1 : Int32) (v2 : Int32) (m : ej_M) {q : (Int32 × ej_M)} (hf : f_X11_holding v1 v2 m = some q) : ej_Ct yX11_holding cX11_holding 4 (some .int) d [.ref 41, .int v1, .int v2] (ej_sh, m) ((some (Value.int q.1), (ej_sh, q.2)) : Option Value × ej_H) := by
  obtain ⟨e, rfl⟩ : ∃ e, d = e + 1 := ⟨d - 1, by omega⟩
  exact z_met (by decide +kernel) (Nat.le_of_ble_eq_true rfl) (b_X11_holding e (by omega) v1 v2 m (K := fun z => ((some (Value.int q.1), (ej_sh, q.2)) : Option Value × ej_H) = (some (Value.int z.1), (ej_sh, z.2))) hf rfl (fun _ h => h))
def f_X11_isBody (v1 : Int32) (m : ej_M) : Option (Int32 × ej_M) :=
  (f_X11_in v1 0 ((m.1 41 43) - 1) m).bind fun q1 =>
  oj_rz q1.1 q1.2
set_option maxHeartbeats 4000000 in
set_option maxRecDepth 100000 in
theorem b_X11_isBody (e : Nat) (hd : 0 ≤ e) (v1 : Int32) (m : ej_M) {x : (Int32 × ej_M)} {res : Option Value × ej_H} {K : (Int32 × ej_M) → Prop} (hf : f_X11_isBody v1 m = some x) (hK : K x) (h0 : ∀ q : (Int32 × ej_M), K q → res = (some (Value.int q.1), (ej_sh, q.2))) : ej_Z cX11_isBody 2 (some .boolean) RX11 "isBody" (e + 1) 0 [(0, .ref 41), (1, .int v1)] [] (ej_sh, m) res := by
  unfold f_X11_isBody at hf
  refine z_iload_n (pc := 0) (i := 1) (j := 1) dX11_isBody_0 rfl rfl ?_
  refine z_iconst (pc := 1) dX11_isBody_1 ki_0 ?_
  refine z_aload_n (pc := 2) (i := 0) (j := 0) dX11_isBody_2 rfl rfl ?_
  refine z_ogetI (pc := 3) dX11_isBody_3 lf_RX11_338 sh_41 rfl rfl ?_
  refine z_iconst (pc := 6) dX11_isBody_6 ki_1 ?_
  refine z_isub (pc := 7) dX11_isBody_7 ?_
  obtain ⟨q1, hq1, hf⟩ := Option.bind_eq_some_iff.mp hf
  refine z_oSi (pc := 8) (as := [.int v1, .int 0, .int ((m.1 41 43) - 1)]) (rest := []) dX11_isBody_8 lm_RX11_104 mf_X11_in ms_X11_in rfl rfl (Nat.le_of_ble_eq_true rfl) (c_X11_in e (by omega) v1 0 ((m.1 41 43) - 1) m hq1) ?_
  rw [h0 _ hK]
  exact z_oretz dX11_isBody_11 rfl hf
set_option maxHeartbeats 4000000 in
set_option maxRecDepth 100000 in
theorem c_X11_isBody (d : Nat) (hd : 1 ≤ d) (v1 : Int32) (m : ej_M) {q : (Int32 × ej_M)} (hf : f_X11_isBody v1 m = some q) : ej_Ct yX11_isBody cX11_isBody 2 (some .boolean) d [.ref 41, .int v1] (ej_sh, m) ((some (Value.int q.1), (ej_sh, q.2)) : Option Value × ej_H) := by
  obtain ⟨e, rfl⟩ : ∃ e, d = e + 1 := ⟨d - 1, by omega⟩
  exact z_met (by decide +kernel) (Nat.le_of_ble_eq_true rfl) (b_X11_isBody e (by omega) v1 m (K := fun z => ((some (Value.int q.1), (ej_sh, q.2)) : Option Value × ej_H) = (some (Value.int z.1), (ej_sh, z.2))) hf rfl (fun _ h => h))
def f_X11_plainSells (v1 : Int32) (v2 : Int32) (m : ej_M) : Option (Int32 × ej_M) :=
  (f_X11_ran 2 m).bind fun q1 =>
  (f_X11_holding v1 v2 q1.2).bind fun q2 =>
  (f_X11_setting v1 1 q2.2).bind fun q3 =>
  some ((q2.1 - q3.1), q3.2)
set_option maxHeartbeats 4000000 in
set_option maxRecDepth 100000 in
theorem b_X11_plainSells (e : Nat) (hd : 6 ≤ e) (v1 : Int32) (v2 : Int32) (m : ej_M) {x : (Int32 × ej_M)} {res : Option Value × ej_H} {K : (Int32 × ej_M) → Prop} (hf : f_X11_plainSells v1 v2 m = some x) (hK : K x) (h0 : ∀ q : (Int32 × ej_M), K q → res = (some (Value.int q.1), (ej_sh, q.2))) : ej_Z cX11_plainSells 4 (some .int) RX11 "plainSells" (e + 1) 0 [(0, .ref 41), (1, .int v1), (2, .int v2)] [] (ej_sh, m) res := by
  unfold f_X11_plainSells at hf
  refine z_aload_n (pc := 0) (i := 0) (j := 0) dX11_plainSells_0 rfl rfl ?_
  refine z_iconst (pc := 1) dX11_plainSells_1 ki_2 ?_
  obtain ⟨q1, hq1, hf⟩ := Option.bind_eq_some_iff.mp hf
  refine z_oVv (pc := 2) (as := [.int 2]) (rest := []) dX11_plainSells_2 lm_RX11_344 mf_X11_ran mi_X11_ran mv_X11_ran rc_41 rfl rfl (Nat.le_of_ble_eq_true rfl) (c_X11_ran e (by omega) 2 m hq1) ?_
  refine z_aload_n (pc := 5) (i := 0) (j := 0) dX11_plainSells_5 rfl rfl ?_
  refine z_iload_n (pc := 6) (i := 1) (j := 1) dX11_plainSells_6 rfl rfl ?_
  refine z_iload_n (pc := 7) (i := 2) (j := 2) dX11_plainSells_7 rfl rfl ?_
  obtain ⟨q2, hq2, hf⟩ := Option.bind_eq_some_iff.mp hf
  refine z_oVi (pc := 8) (as := [.int v1, .int v2]) (rest := []) dX11_plainSells_8 lm_RX11_374 mf_X11_holding mi_X11_holding mv_X11_holding rc_41 rfl rfl (Nat.le_of_ble_eq_true rfl) (c_X11_holding e (by omega) v1 v2 q1.2 hq2) ?_
  refine z_istore_n (pc := 11) (i := 3) (ls' := [(3, .int q2.1), (0, .ref 41), (1, .int v1), (2, .int v2)]) dX11_plainSells_11 rfl (Nat.le_of_ble_eq_true rfl) rfl ?_
  refine z_iload_n (pc := 12) (i := 3) (j := 0) dX11_plainSells_12 rfl rfl ?_
  refine z_aload_n (pc := 13) (i := 0) (j := 1) dX11_plainSells_13 rfl rfl ?_
  refine z_iload_n (pc := 14) (i := 1) (j := 2) dX11_plainSells_14 rfl rfl ?_
  refine z_iconst (pc := 15) dX11_plainSells_15 ki_1 ?_
  obtain ⟨q3, hq3, hf⟩ := Option.bind_eq_some_iff.mp hf
  refine z_oVi (pc := 16) (as := [.int v1, .int 1]) (rest := [.int q2.1]) dX11_plainSells_16 lm_RX11_365 mf_X11_setting mi_X11_setting mv_X11_setting rc_41 rfl rfl (Nat.le_of_ble_eq_true rfl) (c_X11_setting e (by omega) v1 1 q2.2 hq3) ?_
  refine z_isub (pc := 19) dX11_plainSells_19 ?_
  obtain rfl := Option.some.inj hf
  rw [h0 _ hK]
  exact z_iret dX11_plainSells_20 rfl rfl
set_option maxHeartbeats 4000000 in
set_option maxRecDepth 100000 in
theorem c_X11_plainSells (d : Nat) (hd : 7 ≤ d) (v1 : Int32) (v2 : Int32) (m : ej_M) {q : (Int32 × ej_M)} (hf : f_X11_plainSells v1 v2 m = some q) : ej_Ct yX11_plainSells cX11_plainSells 4 (some .int) d [.ref 41, .int v1, .int v2] (ej_sh, m) ((some (Value.int q.1), (ej_sh, q.2)) : Option Value × ej_H) := by
  obtain ⟨e, rfl⟩ : ∃ e, d = e + 1 := ⟨d - 1, by omega⟩
  exact z_met (by decide +kernel) (Nat.le_of_ble_eq_true rfl) (b_X11_plainSells e (by omega) v1 v2 m (K := fun z => ((some (Value.int q.1), (ej_sh, q.2)) : Option Value × ej_H) = (some (Value.int z.1), (ej_sh, z.2))) hf rfl (fun _ h => h))
def f_X11_selling (v1 : Int32) (v2 : Int32) (m : ej_M) : Option (Int32 × ej_M) :=
  (oj_ld 0 m 64 v1).bind fun w1 =>
  if w1 = 4 then
    (f_X11_ran 50 m).bind fun q6 =>
    (f_X11_plainSells v1 v2 q6.2).bind fun q7 =>
    some ((q7.1 ^^^ 5), q7.2)
  else
    (oj_ld 0 m 64 v1).bind fun w2 =>
    if w2 = 5 then
      (f_X11_ran 61 m).bind fun q4 =>
      (f_X11_plainSells v1 v2 q4.2).bind fun q5 =>
      some ((q5.1 + 1), q5.2)
    else
      (f_X11_plainSells v1 v2 m).bind fun q3 =>
      some (q3.1, q3.2)
set_option maxHeartbeats 4000000 in
set_option maxRecDepth 100000 in
theorem b_X11_selling (e : Nat) (hd : 7 ≤ e) (v1 : Int32) (v2 : Int32) (m : ej_M) {x : (Int32 × ej_M)} {res : Option Value × ej_H} {K : (Int32 × ej_M) → Prop} (hf : f_X11_selling v1 v2 m = some x) (hK : K x) (h0 : ∀ q : (Int32 × ej_M), K q → res = (some (Value.int q.1), (ej_sh, q.2))) : ej_Z cX11_selling 3 (some .int) RX11 "selling" (e + 1) 0 [(0, .ref 41), (1, .int v1), (2, .int v2)] [] (ej_sh, m) res := by
  unfold f_X11_selling at hf
  refine z_aload_n (pc := 0) (i := 0) (j := 0) dX11_selling_0 rfl rfl ?_
  refine z_ogetR (pc := 1) dX11_selling_1 lf_RX11_78 sh_41 rfl rfl rfl ?_
  refine z_iload_n (pc := 4) (i := 1) (j := 1) dX11_selling_4 rfl rfl ?_
  obtain ⟨w1, hw1, hf⟩ := Option.bind_eq_some_iff.mp hf
  refine z_oiald (pc := 5) dX11_selling_5 hw1 ?_
  refine z_iconst (pc := 6) dX11_selling_6 ki_4 ?_
  refine z_icmp_ne (pc := 7) (tgt := 25) dX11_selling_7 (by decide) (fun hc => ?_) (fun hc => ?_)
  · rw [if_neg hc] at hf
    refine z_aload_n (pc := 25) (i := 0) (j := 0) dX11_selling_25 rfl rfl ?_
    refine z_ogetR (pc := 26) dX11_selling_26 lf_RX11_78 sh_41 rfl rfl rfl ?_
    refine z_iload_n (pc := 29) (i := 1) (j := 1) dX11_selling_29 rfl rfl ?_
    obtain ⟨w2, hw2, hf⟩ := Option.bind_eq_some_iff.mp hf
    refine z_oiald (pc := 30) dX11_selling_30 hw2 ?_
    refine z_iconst (pc := 31) dX11_selling_31 ki_5 ?_
    refine z_icmp_ne (pc := 32) (tgt := 50) dX11_selling_32 (by decide) (fun hc => ?_) (fun hc => ?_)
    · rw [if_neg hc] at hf
      refine z_aload_n (pc := 50) (i := 0) (j := 0) dX11_selling_50 rfl rfl ?_
      refine z_iload_n (pc := 51) (i := 1) (j := 1) dX11_selling_51 rfl rfl ?_
      refine z_iload_n (pc := 52) (i := 2) (j := 2) dX11_selling_52 rfl rfl ?_
      obtain ⟨q3, hq3, hf⟩ := Option.bind_eq_some_iff.mp hf
      refine z_oVi (pc := 53) (as := [.int v1, .int v2]) (rest := []) dX11_selling_53 lm_RX11_377 mf_X11_plainSells mi_X11_plainSells mv_X11_plainSells rc_41 rfl rfl (Nat.le_of_ble_eq_true rfl) (c_X11_plainSells e (by omega) v1 v2 m hq3) ?_
      obtain rfl := Option.some.inj hf
      rw [h0 _ hK]
      exact z_iret dX11_selling_56 rfl rfl
    · rw [if_pos hc] at hf
      refine z_aload_n (pc := 35) (i := 0) (j := 0) dX11_selling_35 rfl rfl ?_
      refine z_bipush (pc := 36) dX11_selling_36 kb_61 ?_
      obtain ⟨q4, hq4, hf⟩ := Option.bind_eq_some_iff.mp hf
      refine z_oVv (pc := 38) (as := [.int 61]) (rest := []) dX11_selling_38 lm_RX11_344 mf_X11_ran mi_X11_ran mv_X11_ran rc_41 rfl rfl (Nat.le_of_ble_eq_true rfl) (c_X11_ran e (by omega) 61 m hq4) ?_
      refine z_aload_n (pc := 41) (i := 0) (j := 0) dX11_selling_41 rfl rfl ?_
      refine z_iload_n (pc := 42) (i := 1) (j := 1) dX11_selling_42 rfl rfl ?_
      refine z_iload_n (pc := 43) (i := 2) (j := 2) dX11_selling_43 rfl rfl ?_
      obtain ⟨q5, hq5, hf⟩ := Option.bind_eq_some_iff.mp hf
      refine z_oVi (pc := 44) (as := [.int v1, .int v2]) (rest := []) dX11_selling_44 lm_RX11_377 mf_X11_plainSells mi_X11_plainSells mv_X11_plainSells rc_41 rfl rfl (Nat.le_of_ble_eq_true rfl) (c_X11_plainSells e (by omega) v1 v2 q4.2 hq5) ?_
      refine z_iconst (pc := 47) dX11_selling_47 ki_1 ?_
      refine z_iadd (pc := 48) dX11_selling_48 ?_
      obtain rfl := Option.some.inj hf
      rw [h0 _ hK]
      exact z_iret dX11_selling_49 rfl rfl
  · rw [if_pos hc] at hf
    refine z_aload_n (pc := 10) (i := 0) (j := 0) dX11_selling_10 rfl rfl ?_
    refine z_bipush (pc := 11) dX11_selling_11 kb_50 ?_
    obtain ⟨q6, hq6, hf⟩ := Option.bind_eq_some_iff.mp hf
    refine z_oVv (pc := 13) (as := [.int 50]) (rest := []) dX11_selling_13 lm_RX11_344 mf_X11_ran mi_X11_ran mv_X11_ran rc_41 rfl rfl (Nat.le_of_ble_eq_true rfl) (c_X11_ran e (by omega) 50 m hq6) ?_
    refine z_aload_n (pc := 16) (i := 0) (j := 0) dX11_selling_16 rfl rfl ?_
    refine z_iload_n (pc := 17) (i := 1) (j := 1) dX11_selling_17 rfl rfl ?_
    refine z_iload_n (pc := 18) (i := 2) (j := 2) dX11_selling_18 rfl rfl ?_
    obtain ⟨q7, hq7, hf⟩ := Option.bind_eq_some_iff.mp hf
    refine z_oVi (pc := 19) (as := [.int v1, .int v2]) (rest := []) dX11_selling_19 lm_RX11_377 mf_X11_plainSells mi_X11_plainSells mv_X11_plainSells rc_41 rfl rfl (Nat.le_of_ble_eq_true rfl) (c_X11_plainSells e (by omega) v1 v2 q6.2 hq7) ?_
    refine z_iconst (pc := 22) dX11_selling_22 ki_5 ?_
    refine z_ixor (pc := 23) dX11_selling_23 ?_
    obtain rfl := Option.some.inj hf
    rw [h0 _ hK]
    exact z_iret dX11_selling_24 rfl rfl
set_option maxHeartbeats 4000000 in
set_option maxRecDepth 100000 in
theorem c_X11_selling (d : Nat) (hd : 8 ≤ d) (v1 : Int32) (v2 : Int32) (m : ej_M) {q : (Int32 × ej_M)} (hf : f_X11_selling v1 v2 m = some q) : ej_Ct yX11_selling cX11_selling 3 (some .int) d [.ref 41, .int v1, .int v2] (ej_sh, m) ((some (Value.int q.1), (ej_sh, q.2)) : Option Value × ej_H) := by
  obtain ⟨e, rfl⟩ : ∃ e, d = e + 1 := ⟨d - 1, by omega⟩
  exact z_met (by decide +kernel) (Nat.le_of_ble_eq_true rfl) (b_X11_selling e (by omega) v1 v2 m (K := fun z => ((some (Value.int q.1), (ej_sh, q.2)) : Option Value × ej_H) = (some (Value.int z.1), (ej_sh, z.2))) hf rfl (fun _ h => h))
def f_X11_act (v1 : Int32) (v2 : Int32) (v3 : Int32) (m : ej_M) : Option (Int32 × ej_M) :=
  (oj_pf m 41 45 0).bind fun m1 =>
  (f_X11_isBody v1 m1).bind fun q2 =>
  if q2.1 = 0 then
    some (0, q2.2)
  else
    (f_X11_in v2 0 3 q2.2).bind fun q3 =>
    if q3.1 = 0 then
      some (0, q3.2)
    else
      if v2 = 0 then
        (f_X11_standsOf v1 v3 q3.2).bind fun q7 =>
        some (q7.1, q7.2)
      else
        if v2 = 1 then
          (f_X11_holding v1 v3 q3.2).bind fun q6 =>
          some (q6.1, q6.2)
        else
          if v2 = 2 then
            (f_X11_setting v1 v3 q3.2).bind fun q5 =>
            some (q5.1, q5.2)
          else
            (f_X11_selling v1 v3 q3.2).bind fun q4 =>
            some (q4.1, q4.2)
set_option maxHeartbeats 4000000 in
set_option maxRecDepth 100000 in
theorem b_X11_act (e : Nat) (hd : 8 ≤ e) (v1 : Int32) (v2 : Int32) (v3 : Int32) (m : ej_M) {x : (Int32 × ej_M)} {res : Option Value × ej_H} {K : (Int32 × ej_M) → Prop} (hf : f_X11_act v1 v2 v3 m = some x) (hK : K x) (h0 : ∀ q : (Int32 × ej_M), K q → res = (some (Value.int q.1), (ej_sh, q.2))) : ej_Z cX11_act 4 (some .int) RX11 "act" (e + 1) 0 [(0, .ref 41), (1, .int v1), (2, .int v2), (3, .int v3)] [] (ej_sh, m) res := by
  unfold f_X11_act at hf
  refine z_aload_n (pc := 0) (i := 0) (j := 0) dX11_act_0 rfl rfl ?_
  refine z_iconst (pc := 1) dX11_act_1 ki_0 ?_
  obtain ⟨m1, hm1, hf⟩ := Option.bind_eq_some_iff.mp hf
  refine z_oputI (pc := 2) dX11_act_2 lf_RX11_341 sh_41 rfl hm1 ?_
  refine z_aload_n (pc := 5) (i := 0) (j := 0) dX11_act_5 rfl rfl ?_
  refine z_iload_n (pc := 6) (i := 1) (j := 1) dX11_act_6 rfl rfl ?_
  obtain ⟨q2, hq2, hf⟩ := Option.bind_eq_some_iff.mp hf
  refine z_oVi (pc := 7) (as := [.int v1]) (rest := []) dX11_act_7 lm_RX11_380 mf_X11_isBody mi_X11_isBody mv_X11_isBody rc_41 rfl rfl (Nat.le_of_ble_eq_true rfl) (c_X11_isBody e (by omega) v1 m1 hq2) ?_
  refine z_if_eq (pc := 10) (tgt := 22) dX11_act_10 (by decide) (fun hc => ?_) (fun hc => ?_)
  · rw [if_pos hc] at hf
    refine z_iconst (pc := 22) dX11_act_22 ki_0 ?_
    obtain rfl := Option.some.inj hf
    rw [h0 _ hK]
    exact z_iret dX11_act_23 rfl rfl
  · rw [if_neg hc] at hf
    refine z_iload_n (pc := 13) (i := 2) (j := 2) dX11_act_13 rfl rfl ?_
    refine z_iconst (pc := 14) dX11_act_14 ki_0 ?_
    refine z_iconst (pc := 15) dX11_act_15 ki_3 ?_
    obtain ⟨q3, hq3, hf⟩ := Option.bind_eq_some_iff.mp hf
    refine z_oSi (pc := 16) (as := [.int v2, .int 0, .int 3]) (rest := []) dX11_act_16 lm_RX11_104 mf_X11_in ms_X11_in rfl rfl (Nat.le_of_ble_eq_true rfl) (c_X11_in e (by omega) v2 0 3 q2.2 hq3) ?_
    refine z_if_ne (pc := 19) (tgt := 24) dX11_act_19 (by decide) (fun hc => ?_) (fun hc => ?_)
    · rw [if_neg hc] at hf
      refine z_iload_n (pc := 24) (i := 2) (j := 2) dX11_act_24 rfl rfl ?_
      refine z_if_ne (pc := 25) (tgt := 37) dX11_act_25 (by decide) (fun hc => ?_) (fun hc => ?_)
      · rw [if_neg hc] at hf
        refine z_iload_n (pc := 37) (i := 2) (j := 2) dX11_act_37 rfl rfl ?_
        refine z_iconst (pc := 38) dX11_act_38 ki_1 ?_
        refine z_icmp_ne (pc := 39) (tgt := 51) dX11_act_39 (by decide) (fun hc => ?_) (fun hc => ?_)
        · rw [if_neg hc] at hf
          refine z_iload_n (pc := 51) (i := 2) (j := 2) dX11_act_51 rfl rfl ?_
          refine z_iconst (pc := 52) dX11_act_52 ki_2 ?_
          refine z_icmp_ne (pc := 53) (tgt := 65) dX11_act_53 (by decide) (fun hc => ?_) (fun hc => ?_)
          · rw [if_neg hc] at hf
            refine z_aload_n (pc := 65) (i := 0) (j := 0) dX11_act_65 rfl rfl ?_
            refine z_iload_n (pc := 66) (i := 1) (j := 1) dX11_act_66 rfl rfl ?_
            refine z_iload_n (pc := 67) (i := 3) (j := 3) dX11_act_67 rfl rfl ?_
            obtain ⟨q4, hq4, hf⟩ := Option.bind_eq_some_iff.mp hf
            refine z_oVi (pc := 68) (as := [.int v1, .int v3]) (rest := []) dX11_act_68 lm_RX11_383 mf_X11_selling mi_X11_selling mv_X11_selling rc_41 rfl rfl (Nat.le_of_ble_eq_true rfl) (c_X11_selling e (by omega) v1 v3 q3.2 hq4) ?_
            obtain rfl := Option.some.inj hf
            rw [h0 _ hK]
            exact z_iret dX11_act_71 rfl rfl
          · rw [if_pos hc] at hf
            refine z_aload_n (pc := 56) (i := 0) (j := 0) dX11_act_56 rfl rfl ?_
            refine z_iload_n (pc := 57) (i := 1) (j := 1) dX11_act_57 rfl rfl ?_
            refine z_iload_n (pc := 58) (i := 3) (j := 3) dX11_act_58 rfl rfl ?_
            obtain ⟨q5, hq5, hf⟩ := Option.bind_eq_some_iff.mp hf
            refine z_oVi (pc := 59) (as := [.int v1, .int v3]) (rest := []) dX11_act_59 lm_RX11_365 mf_X11_setting mi_X11_setting mv_X11_setting rc_41 rfl rfl (Nat.le_of_ble_eq_true rfl) (c_X11_setting e (by omega) v1 v3 q3.2 hq5) ?_
            refine z_goto (pc := 62) (tgt := 71) dX11_act_62 (by decide) ?_
            obtain rfl := Option.some.inj hf
            rw [h0 _ hK]
            exact z_iret dX11_act_71 rfl rfl
        · rw [if_pos hc] at hf
          refine z_aload_n (pc := 42) (i := 0) (j := 0) dX11_act_42 rfl rfl ?_
          refine z_iload_n (pc := 43) (i := 1) (j := 1) dX11_act_43 rfl rfl ?_
          refine z_iload_n (pc := 44) (i := 3) (j := 3) dX11_act_44 rfl rfl ?_
          obtain ⟨q6, hq6, hf⟩ := Option.bind_eq_some_iff.mp hf
          refine z_oVi (pc := 45) (as := [.int v1, .int v3]) (rest := []) dX11_act_45 lm_RX11_374 mf_X11_holding mi_X11_holding mv_X11_holding rc_41 rfl rfl (Nat.le_of_ble_eq_true rfl) (c_X11_holding e (by omega) v1 v3 q3.2 hq6) ?_
          refine z_goto (pc := 48) (tgt := 71) dX11_act_48 (by decide) ?_
          obtain rfl := Option.some.inj hf
          rw [h0 _ hK]
          exact z_iret dX11_act_71 rfl rfl
      · rw [if_pos hc] at hf
        refine z_aload_n (pc := 28) (i := 0) (j := 0) dX11_act_28 rfl rfl ?_
        refine z_iload_n (pc := 29) (i := 1) (j := 1) dX11_act_29 rfl rfl ?_
        refine z_iload_n (pc := 30) (i := 3) (j := 3) dX11_act_30 rfl rfl ?_
        obtain ⟨q7, hq7, hf⟩ := Option.bind_eq_some_iff.mp hf
        refine z_oVi (pc := 31) (as := [.int v1, .int v3]) (rest := []) dX11_act_31 lm_RX11_356 mf_X11_standsOf mi_X11_standsOf mv_X11_standsOf rc_41 rfl rfl (Nat.le_of_ble_eq_true rfl) (c_X11_standsOf e (by omega) v1 v3 q3.2 hq7) ?_
        refine z_goto (pc := 34) (tgt := 71) dX11_act_34 (by decide) ?_
        obtain rfl := Option.some.inj hf
        rw [h0 _ hK]
        exact z_iret dX11_act_71 rfl rfl
    · rw [if_pos hc] at hf
      refine z_iconst (pc := 22) dX11_act_22 ki_0 ?_
      obtain rfl := Option.some.inj hf
      rw [h0 _ hK]
      exact z_iret dX11_act_23 rfl rfl
set_option maxHeartbeats 4000000 in
set_option maxRecDepth 100000 in
theorem c_X11_act (d : Nat) (hd : 9 ≤ d) (v1 : Int32) (v2 : Int32) (v3 : Int32) (m : ej_M) {q : (Int32 × ej_M)} (hf : f_X11_act v1 v2 v3 m = some q) : ej_Ct yX11_act cX11_act 4 (some .int) d [.ref 41, .int v1, .int v2, .int v3] (ej_sh, m) ((some (Value.int q.1), (ej_sh, q.2)) : Option Value × ej_H) := by
  obtain ⟨e, rfl⟩ : ∃ e, d = e + 1 := ⟨d - 1, by omega⟩
  exact z_met (by decide +kernel) (Nat.le_of_ble_eq_true rfl) (b_X11_act e (by omega) v1 v2 v3 m (K := fun z => ((some (Value.int q.1), (ej_sh, q.2)) : Option Value × ej_H) = (some (Value.int z.1), (ej_sh, z.2))) hf rfl (fun _ h => h))
def f_X0_traced (v1 : Int32) (m : ej_M) : Option (Int32 × ej_M) :=
  if v1 < 0 then
    some ((-1), m)
  else
    if (m.1 34 3) ≤ v1 then
      some ((-1), m)
    else
      if 24 ≤ v1 then
        some ((-1), m)
      else
        (f_X10_at 36 v1 m).bind fun q1 =>
        some (q1.1, q1.2)
set_option maxHeartbeats 4000000 in
set_option maxRecDepth 100000 in
theorem b_X0_traced (e : Nat) (hd : 0 ≤ e) (v1 : Int32) (m : ej_M) {x : (Int32 × ej_M)} {res : Option Value × ej_H} {K : (Int32 × ej_M) → Prop} (hf : f_X0_traced v1 m = some x) (hK : K x) (h0 : ∀ q : (Int32 × ej_M), K q → res = (some (Value.int q.1), (ej_sh, q.2))) : ej_Z cX0_traced 2 (some .int) RX0 "traced" (e + 1) 0 [(0, .ref 34), (1, .int v1)] [] (ej_sh, m) res := by
  unfold f_X0_traced at hf
  refine z_iload_n (pc := 0) (i := 1) (j := 1) dX0_traced_0 rfl rfl ?_
  refine z_if_lt (pc := 1) (tgt := 29) dX0_traced_1 (by decide) (fun hc => ?_) (fun hc => ?_)
  · rw [if_pos hc] at hf
    refine z_iconst (pc := 29) dX0_traced_29 ki_n1 ?_
    obtain rfl := Option.some.inj hf
    rw [h0 _ hK]
    exact z_iret dX0_traced_30 rfl rfl
  · rw [if_neg hc] at hf
    refine z_iload_n (pc := 4) (i := 1) (j := 1) dX0_traced_4 rfl rfl ?_
    refine z_aload_n (pc := 5) (i := 0) (j := 0) dX0_traced_5 rfl rfl ?_
    refine z_ogetI (pc := 6) dX0_traced_6 lf_RX0_37 sh_34 rfl rfl ?_
    refine z_icmp_ge (pc := 9) (tgt := 29) dX0_traced_9 (by decide) (fun hc => ?_) (fun hc => ?_)
    · rw [if_pos hc] at hf
      refine z_iconst (pc := 29) dX0_traced_29 ki_n1 ?_
      obtain rfl := Option.some.inj hf
      rw [h0 _ hK]
      exact z_iret dX0_traced_30 rfl rfl
    · rw [if_neg hc] at hf
      refine z_iload_n (pc := 12) (i := 1) (j := 1) dX0_traced_12 rfl rfl ?_
      refine z_bipush (pc := 13) dX0_traced_13 kb_24 ?_
      refine z_icmp_ge (pc := 15) (tgt := 29) dX0_traced_15 (by decide) (fun hc => ?_) (fun hc => ?_)
      · rw [if_pos hc] at hf
        refine z_iconst (pc := 29) dX0_traced_29 ki_n1 ?_
        obtain rfl := Option.some.inj hf
        rw [h0 _ hK]
        exact z_iret dX0_traced_30 rfl rfl
      · rw [if_neg hc] at hf
        refine z_aload_n (pc := 18) (i := 0) (j := 0) dX0_traced_18 rfl rfl ?_
        refine z_ogetR (pc := 19) dX0_traced_19 lf_RX0_15 sh_34 rfl rfl rfl ?_
        refine z_iload_n (pc := 22) (i := 1) (j := 1) dX0_traced_22 rfl rfl ?_
        obtain ⟨q1, hq1, hf⟩ := Option.bind_eq_some_iff.mp hf
        refine z_oSi (pc := 23) (as := [.ref 36, .int v1]) (rest := []) dX0_traced_23 lm_RX0_30 mf_X10_at ms_X10_at rfl rfl (Nat.le_of_ble_eq_true rfl) (c_X10_at e (by omega) 36 v1 m hq1) ?_
        refine z_goto (pc := 26) (tgt := 30) dX0_traced_26 (by decide) ?_
        obtain rfl := Option.some.inj hf
        rw [h0 _ hK]
        exact z_iret dX0_traced_30 rfl rfl
set_option maxHeartbeats 4000000 in
set_option maxRecDepth 100000 in
theorem c_X0_traced (d : Nat) (hd : 1 ≤ d) (v1 : Int32) (m : ej_M) {q : (Int32 × ej_M)} (hf : f_X0_traced v1 m = some q) : ej_Ct yX0_traced cX0_traced 2 (some .int) d [.ref 34, .int v1] (ej_sh, m) ((some (Value.int q.1), (ej_sh, q.2)) : Option Value × ej_H) := by
  obtain ⟨e, rfl⟩ : ∃ e, d = e + 1 := ⟨d - 1, by omega⟩
  exact z_met (by decide +kernel) (Nat.le_of_ble_eq_true rfl) (b_X0_traced e (by omega) v1 m (K := fun z => ((some (Value.int q.1), (ej_sh, q.2)) : Option Value × ej_H) = (some (Value.int z.1), (ej_sh, z.2))) hf rfl (fun _ h => h))
def f_X10_trace (v1 : Int32) (m : ej_M) : Option (Int32 × ej_M) :=
  (f_X0_traced v1 m).bind fun q1 =>
  some (q1.1, q1.2)
set_option maxHeartbeats 4000000 in
set_option maxRecDepth 100000 in
theorem b_X10_trace (e : Nat) (hd : 1 ≤ e) (v1 : Int32) (m : ej_M) {x : (Int32 × ej_M)} {res : Option Value × ej_H} {K : (Int32 × ej_M) → Prop} (hf : f_X10_trace v1 m = some x) (hK : K x) (h0 : ∀ q : (Int32 × ej_M), K q → res = (some (Value.int q.1), (ej_sh, q.2))) : ej_Z cX10_trace 2 (some .int) RX10 "trace" (e + 1) 0 [(0, .ref 0), (1, .int v1)] [] (ej_sh, m) res := by
  unfold f_X10_trace at hf
  refine z_aload_n (pc := 0) (i := 0) (j := 0) dX10_trace_0 rfl rfl ?_
  refine z_ogetR (pc := 1) dX10_trace_1 lf_RX10_72 sh_0 rfl rfl rfl ?_
  refine z_iload_n (pc := 4) (i := 1) (j := 1) dX10_trace_4 rfl rfl ?_
  obtain ⟨q1, hq1, hf⟩ := Option.bind_eq_some_iff.mp hf
  refine z_oVi (pc := 5) (as := [.int v1]) (rest := []) dX10_trace_5 lm_RX10_262 mf_X0_traced mi_X0_traced mv_X0_traced rc_34 rfl rfl (Nat.le_of_ble_eq_true rfl) (c_X0_traced e (by omega) v1 m hq1) ?_
  obtain rfl := Option.some.inj hf
  rw [h0 _ hK]
  exact z_iret dX10_trace_8 rfl rfl
set_option maxHeartbeats 4000000 in
set_option maxRecDepth 100000 in
theorem c_X10_trace (d : Nat) (hd : 2 ≤ d) (v1 : Int32) (m : ej_M) {q : (Int32 × ej_M)} (hf : f_X10_trace v1 m = some q) : ej_Ct yX10_trace cX10_trace 2 (some .int) d [.ref 0, .int v1] (ej_sh, m) ((some (Value.int q.1), (ej_sh, q.2)) : Option Value × ej_H) := by
  obtain ⟨e, rfl⟩ : ∃ e, d = e + 1 := ⟨d - 1, by omega⟩
  exact z_met (by decide +kernel) (Nat.le_of_ble_eq_true rfl) (b_X10_trace e (by omega) v1 m (K := fun z => ((some (Value.int q.1), (ej_sh, q.2)) : Option Value × ej_H) = (some (Value.int z.1), (ej_sh, z.2))) hf rfl (fun _ h => h))
def f_X11_trace (v1 : Int32) (m : ej_M) : Option (Int32 × ej_M) :=
  if v1 < 0 then
    some ((-1), m)
  else
    if (m.1 41 45) ≤ v1 then
      some ((-1), m)
    else
      if 24 ≤ v1 then
        some ((-1), m)
      else
        (oj_ld 0 m 65 v1).bind fun w1 =>
        some (w1, m)
set_option maxHeartbeats 4000000 in
set_option maxRecDepth 100000 in
theorem b_X11_trace (d : Nat) (v1 : Int32) (m : ej_M) {x : (Int32 × ej_M)} {res : Option Value × ej_H} {K : (Int32 × ej_M) → Prop} (hf : f_X11_trace v1 m = some x) (hK : K x) (h0 : ∀ q : (Int32 × ej_M), K q → res = (some (Value.int q.1), (ej_sh, q.2))) : ej_Z cX11_trace 2 (some .int) RX11 "trace" d 0 [(0, .ref 41), (1, .int v1)] [] (ej_sh, m) res := by
  unfold f_X11_trace at hf
  refine z_iload_n (pc := 0) (i := 1) (j := 1) dX11_trace_0 rfl rfl ?_
  refine z_if_lt (pc := 1) (tgt := 27) dX11_trace_1 (by decide) (fun hc => ?_) (fun hc => ?_)
  · rw [if_pos hc] at hf
    refine z_iconst (pc := 27) dX11_trace_27 ki_n1 ?_
    obtain rfl := Option.some.inj hf
    rw [h0 _ hK]
    exact z_iret dX11_trace_28 rfl rfl
  · rw [if_neg hc] at hf
    refine z_iload_n (pc := 4) (i := 1) (j := 1) dX11_trace_4 rfl rfl ?_
    refine z_aload_n (pc := 5) (i := 0) (j := 0) dX11_trace_5 rfl rfl ?_
    refine z_ogetI (pc := 6) dX11_trace_6 lf_RX11_341 sh_41 rfl rfl ?_
    refine z_icmp_ge (pc := 9) (tgt := 27) dX11_trace_9 (by decide) (fun hc => ?_) (fun hc => ?_)
    · rw [if_pos hc] at hf
      refine z_iconst (pc := 27) dX11_trace_27 ki_n1 ?_
      obtain rfl := Option.some.inj hf
      rw [h0 _ hK]
      exact z_iret dX11_trace_28 rfl rfl
    · rw [if_neg hc] at hf
      refine z_iload_n (pc := 12) (i := 1) (j := 1) dX11_trace_12 rfl rfl ?_
      refine z_bipush (pc := 13) dX11_trace_13 kb_24 ?_
      refine z_icmp_ge (pc := 15) (tgt := 27) dX11_trace_15 (by decide) (fun hc => ?_) (fun hc => ?_)
      · rw [if_pos hc] at hf
        refine z_iconst (pc := 27) dX11_trace_27 ki_n1 ?_
        obtain rfl := Option.some.inj hf
        rw [h0 _ hK]
        exact z_iret dX11_trace_28 rfl rfl
      · rw [if_neg hc] at hf
        refine z_aload_n (pc := 18) (i := 0) (j := 0) dX11_trace_18 rfl rfl ?_
        refine z_ogetR (pc := 19) dX11_trace_19 lf_RX11_81 sh_41 rfl rfl rfl ?_
        refine z_iload_n (pc := 22) (i := 1) (j := 1) dX11_trace_22 rfl rfl ?_
        obtain ⟨w1, hw1, hf⟩ := Option.bind_eq_some_iff.mp hf
        refine z_oiald (pc := 23) dX11_trace_23 hw1 ?_
        refine z_goto (pc := 24) (tgt := 28) dX11_trace_24 (by decide) ?_
        obtain rfl := Option.some.inj hf
        rw [h0 _ hK]
        exact z_iret dX11_trace_28 rfl rfl
set_option maxHeartbeats 4000000 in
set_option maxRecDepth 100000 in
theorem c_X11_trace (d : Nat) (hd : 0 ≤ d) (v1 : Int32) (m : ej_M) {q : (Int32 × ej_M)} (hf : f_X11_trace v1 m = some q) : ej_Ct yX11_trace cX11_trace 2 (some .int) d [.ref 41, .int v1] (ej_sh, m) ((some (Value.int q.1), (ej_sh, q.2)) : Option Value × ej_H) := by
  exact z_met (by decide +kernel) (Nat.le_of_ble_eq_true rfl) (b_X11_trace d v1 m (K := fun z => ((some (Value.int q.1), (ej_sh, q.2)) : Option Value × ej_H) = (some (Value.int z.1), (ej_sh, z.2))) hf rfl (fun _ h => h))
def f_X6_store (v1 : Int32) (v2 : Int32) (v3 : Int64) (m : ej_M) : Option (Unit × ej_M) :=
  if ((v1 * 60) + v2) < 0 then
    some ((), m)
  else
    (oj_ln m 40).bind fun w1 =>
    if w1 ≤ ((v1 * 60) + v2) then
      some ((), m)
    else
      (oj_sl m 40 ((v1 * 60) + v2) v3).bind fun m2 =>
      some ((), m2)
set_option maxHeartbeats 4000000 in
set_option maxRecDepth 100000 in
theorem b_X6_store (d : Nat) (v1 : Int32) (v2 : Int32) (v3 : Int64) (m : ej_M) {x : (Unit × ej_M)} {res : Option Value × ej_H} {K : (Unit × ej_M) → Prop} (hf : f_X6_store v1 v2 v3 m = some x) (hK : K x) (h0 : ∀ q : (Unit × ej_M), K q → res = (none, (ej_sh, q.2))) : ej_Z cX6_store 6 none RX6 "store" d 0 [(0, .ref 37), (1, .int v1), (2, .int v2), (3, .long v3)] [] (ej_sh, m) res := by
  unfold f_X6_store at hf
  refine z_iload_n (pc := 0) (i := 1) (j := 1) dX6_store_0 rfl rfl ?_
  refine z_bipush (pc := 1) dX6_store_1 kb_60 ?_
  refine z_imul (pc := 3) dX6_store_3 ?_
  refine z_iload_n (pc := 4) (i := 2) (j := 2) dX6_store_4 rfl rfl ?_
  refine z_iadd (pc := 5) dX6_store_5 ?_
  refine z_istore (pc := 6) (i := 5) (ls' := [(5, .int ((v1 * 60) + v2)), (0, .ref 37), (1, .int v1), (2, .int v2), (3, .long v3)]) dX6_store_6 (Nat.le_of_ble_eq_true rfl) rfl ?_
  refine z_iload (pc := 8) (i := 5) (j := 0) dX6_store_8 rfl ?_
  refine z_if_lt (pc := 10) (tgt := 31) dX6_store_10 (by decide) (fun hc => ?_) (fun hc => ?_)
  · rw [if_pos hc] at hf
    obtain rfl := Option.some.inj hf
    rw [h0 _ hK]
    exact z_ret dX6_store_31 rfl
  · rw [if_neg hc] at hf
    refine z_iload (pc := 13) (i := 5) (j := 0) dX6_store_13 rfl ?_
    refine z_aload_n (pc := 15) (i := 0) (j := 1) dX6_store_15 rfl rfl ?_
    refine z_ogetR (pc := 16) dX6_store_16 lf_RX6_18 sh_37 rfl rfl rfl ?_
    obtain ⟨w1, hw1, hf⟩ := Option.bind_eq_some_iff.mp hf
    refine z_oalen (pc := 19) dX6_store_19 hw1 ?_
    refine z_icmp_ge (pc := 20) (tgt := 31) dX6_store_20 (by decide) (fun hc => ?_) (fun hc => ?_)
    · rw [if_pos hc] at hf
      obtain rfl := Option.some.inj hf
      rw [h0 _ hK]
      exact z_ret dX6_store_31 rfl
    · rw [if_neg hc] at hf
      refine z_aload_n (pc := 23) (i := 0) (j := 1) dX6_store_23 rfl rfl ?_
      refine z_ogetR (pc := 24) dX6_store_24 lf_RX6_18 sh_37 rfl rfl rfl ?_
      refine z_iload (pc := 27) (i := 5) (j := 0) dX6_store_27 rfl ?_
      refine z_lload_n (pc := 29) (i := 3) (j := 4) dX6_store_29 rfl rfl ?_
      obtain ⟨m2, hm2, hf⟩ := Option.bind_eq_some_iff.mp hf
      refine z_olast (pc := 30) dX6_store_30 hm2 ?_
      obtain rfl := Option.some.inj hf
      rw [h0 _ hK]
      exact z_ret dX6_store_31 rfl
set_option maxHeartbeats 4000000 in
set_option maxRecDepth 100000 in
theorem c_X6_store (d : Nat) (hd : 0 ≤ d) (v1 : Int32) (v2 : Int32) (v3 : Int64) (m : ej_M) {q : (Unit × ej_M)} (hf : f_X6_store v1 v2 v3 m = some q) : ej_Ct yX6_store cX6_store 6 none d [.ref 37, .int v1, .int v2, .long v3] (ej_sh, m) ((none, (ej_sh, q.2)) : Option Value × ej_H) := by
  exact z_met (by decide +kernel) (Nat.le_of_ble_eq_true rfl) (b_X6_store d v1 v2 v3 m (K := fun z => ((none, (ej_sh, q.2)) : Option Value × ej_H) = (none, (ej_sh, z.2))) hf rfl (fun _ h => h))
def f_X6_hold_L21b (v1 : Int32) (v4 : Int32) (m : ej_M) : Option ((Int32 × ej_M) ⊕ (Unit × ej_M)) :=
  if 60 ≤ v4 then
    some (Sum.inr ((), m))
  else
    (f_X6_store v1 v4 (0 : Int64) m).bind fun q1 =>
    some (Sum.inl ((v4 + 1), q1.2))
set_option maxHeartbeats 4000000 in
set_option maxRecDepth 100000 in
theorem b_X6_hold_L21b (e : Nat) (hd : 0 ≤ e) (v1 : Int32) (v4 : Int32) (m : ej_M) {x : ((Int32 × ej_M) ⊕ (Unit × ej_M))} {res : Option Value × ej_H} {K : ((Int32 × ej_M) ⊕ (Unit × ej_M)) → Prop} (hf : f_X6_hold_L21b v1 v4 m = some x) (hK : K x) (h1 : ∀ q : (Int32 × ej_M), K (Sum.inl q) → ej_Z cX6_hold 5 none RX6 "hold" (e + 1) 21 [(0, .ref 37), (1, .int v1), (4, .int q.1)] [] (ej_sh, q.2) res) (h0 : ∀ q : (Unit × ej_M), K (Sum.inr q) → res = (none, (ej_sh, q.2))) : ej_Z cX6_hold 5 none RX6 "hold" (e + 1) 21 [(0, .ref 37), (1, .int v1), (4, .int v4)] [] (ej_sh, m) res := by
  unfold f_X6_hold_L21b at hf
  refine z_iload (pc := 21) (i := 4) (j := 2) dX6_hold_21 rfl ?_
  refine z_bipush (pc := 23) dX6_hold_23 kb_60 ?_
  refine z_icmp_ge (pc := 25) (tgt := 42) dX6_hold_25 (by decide) (fun hc => ?_) (fun hc => ?_)
  · rw [if_pos hc] at hf
    obtain rfl := Option.some.inj hf
    rw [h0 _ hK]
    exact z_ret dX6_hold_42 rfl
  · rw [if_neg hc] at hf
    refine z_aload_n (pc := 28) (i := 0) (j := 0) dX6_hold_28 rfl rfl ?_
    refine z_iload_n (pc := 29) (i := 1) (j := 1) dX6_hold_29 rfl rfl ?_
    refine z_iload (pc := 30) (i := 4) (j := 2) dX6_hold_30 rfl ?_
    refine z_lconst (pc := 32) dX6_hold_32 kl_0 ?_
    obtain ⟨q1, hq1, hf⟩ := Option.bind_eq_some_iff.mp hf
    refine z_oVv (pc := 33) (as := [.int v1, .int v4, .long (0 : Int64)]) (rest := []) dX6_hold_33 lm_RX6_30 mf_X6_store mi_X6_store mv_X6_store rc_37 rfl rfl (Nat.le_of_ble_eq_true rfl) (c_X6_store e (by omega) v1 v4 (0 : Int64) m hq1) ?_
    refine z_iinc (pc := 36) (j := 2) (ls' := [(4, .int (v4 + 1)), (0, .ref 37), (1, .int v1)]) dX6_hold_36 rfl ki_1 (Nat.le_of_ble_eq_true rfl) rfl ?_
    refine z_goto (pc := 39) (tgt := 21) dX6_hold_39 (by decide) ?_
    obtain rfl := Option.some.inj hf
    exact z_pick (ls' := [(0, .ref 37), (1, .int v1), (4, .int (v4 + 1))]) [1, 2, 0] rfl (h1 ((v4 + 1), q1.2) hK)
def f_X6_hold_L21 (v1 : Int32) (v4 : Int32) (m : ej_M) : Option (Unit × ej_M) := oj_loop (fun q : (Int32 × ej_M) => f_X6_hold_L21b v1 q.1 q.2) oj_FU (v4, m)
set_option maxHeartbeats 4000000 in
set_option maxRecDepth 100000 in
theorem b_X6_hold_L21 (e : Nat) (hd : 0 ≤ e) (v1 : Int32) (v4 : Int32) (m : ej_M) {x : (Unit × ej_M)} {res : Option Value × ej_H} {K : (Unit × ej_M) → Prop} (hf : f_X6_hold_L21 v1 v4 m = some x) (hK : K x) (h0 : ∀ q : (Unit × ej_M), K q → res = (none, (ej_sh, q.2))) : ej_Z cX6_hold 5 none RX6 "hold" (e + 1) 21 [(0, .ref 37), (1, .int v1), (4, .int v4)] [] (ej_sh, m) res :=
  oj_loop_Z (body := fun q : (Int32 × ej_M) => f_X6_hold_L21b v1 q.1 q.2) (P := fun q : (Int32 × ej_M) => ej_Z cX6_hold 5 none RX6 "hold" (e + 1) 21 [(0, .ref 37), (1, .int v1), (4, .int q.1)] [] (ej_sh, q.2) res) (K := K) (fun s x hb hl hr => b_X6_hold_L21b e hd v1  s.1 s.2 (K := fun x => (∀ s' : (Int32 × ej_M), x = Sum.inl s' → ej_Z cX6_hold 5 none RX6 "hold" (e + 1) 21 [(0, .ref 37), (1, .int v1), (4, .int s'.1)] [] (ej_sh, s'.2) res) ∧ ∀ e, x = Sum.inr e → K e) hb ⟨hl, hr⟩ (fun q hq => hq.1 q rfl) (fun q hq => h0 q (hq.2 _ rfl))) oj_FU (v4, m) x hf hK
def f_X6_hold (v1 : Int32) (v2 : Int32) (v3 : Int32) (m : ej_M) : Option (Unit × ej_M) :=
  (f_X10_lay 38 v1 v2 m).bind fun q1 =>
  (f_X10_lay 39 v1 v3 q1.2).bind fun q2 =>
  f_X6_hold_L21 v1 0 q2.2
set_option maxHeartbeats 4000000 in
set_option maxRecDepth 100000 in
theorem b_X6_hold (e : Nat) (hd : 0 ≤ e) (v1 : Int32) (v2 : Int32) (v3 : Int32) (m : ej_M) {x : (Unit × ej_M)} {res : Option Value × ej_H} {K : (Unit × ej_M) → Prop} (hf : f_X6_hold v1 v2 v3 m = some x) (hK : K x) (h0 : ∀ q : (Unit × ej_M), K q → res = (none, (ej_sh, q.2))) : ej_Z cX6_hold 5 none RX6 "hold" (e + 1) 0 [(0, .ref 37), (1, .int v1), (2, .int v2), (3, .int v3)] [] (ej_sh, m) res := by
  unfold f_X6_hold at hf
  refine z_aload_n (pc := 0) (i := 0) (j := 0) dX6_hold_0 rfl rfl ?_
  refine z_ogetR (pc := 1) dX6_hold_1 lf_RX6_11 sh_37 rfl rfl rfl ?_
  refine z_iload_n (pc := 4) (i := 1) (j := 1) dX6_hold_4 rfl rfl ?_
  refine z_iload_n (pc := 5) (i := 2) (j := 2) dX6_hold_5 rfl rfl ?_
  obtain ⟨q1, hq1, hf⟩ := Option.bind_eq_some_iff.mp hf
  refine z_oSv (pc := 6) (as := [.ref 38, .int v1, .int v2]) (rest := []) dX6_hold_6 lm_RX6_22 mf_X10_lay ms_X10_lay rfl rfl (Nat.le_of_ble_eq_true rfl) (c_X10_lay e (by omega) 38 v1 v2 m hq1) ?_
  refine z_aload_n (pc := 9) (i := 0) (j := 0) dX6_hold_9 rfl rfl ?_
  refine z_ogetR (pc := 10) dX6_hold_10 lf_RX6_15 sh_37 rfl rfl rfl ?_
  refine z_iload_n (pc := 13) (i := 1) (j := 1) dX6_hold_13 rfl rfl ?_
  refine z_iload_n (pc := 14) (i := 3) (j := 3) dX6_hold_14 rfl rfl ?_
  obtain ⟨q2, hq2, hf⟩ := Option.bind_eq_some_iff.mp hf
  refine z_oSv (pc := 15) (as := [.ref 39, .int v1, .int v3]) (rest := []) dX6_hold_15 lm_RX6_22 mf_X10_lay ms_X10_lay rfl rfl (Nat.le_of_ble_eq_true rfl) (c_X10_lay e (by omega) 39 v1 v3 q1.2 hq2) ?_
  refine z_iconst (pc := 18) dX6_hold_18 ki_0 ?_
  refine z_istore (pc := 19) (i := 4) (ls' := [(4, .int 0), (0, .ref 37), (1, .int v1), (2, .int v2), (3, .int v3)]) dX6_hold_19 (Nat.le_of_ble_eq_true rfl) rfl ?_
  exact z_pick [1, 2, 0] rfl (b_X6_hold_L21 e hd v1 0 q2.2 (K := K) hf hK  h0)
set_option maxHeartbeats 4000000 in
set_option maxRecDepth 100000 in
theorem c_X6_hold (d : Nat) (hd : 1 ≤ d) (v1 : Int32) (v2 : Int32) (v3 : Int32) (m : ej_M) {q : (Unit × ej_M)} (hf : f_X6_hold v1 v2 v3 m = some q) : ej_Ct yX6_hold cX6_hold 5 none d [.ref 37, .int v1, .int v2, .int v3] (ej_sh, m) ((none, (ej_sh, q.2)) : Option Value × ej_H) := by
  obtain ⟨e, rfl⟩ : ∃ e, d = e + 1 := ⟨d - 1, by omega⟩
  exact z_met (by decide +kernel) (Nat.le_of_ble_eq_true rfl) (b_X6_hold e (by omega) v1 v2 v3 m (K := fun z => ((none, (ej_sh, q.2)) : Option Value × ej_H) = (none, (ej_sh, z.2))) hf rfl (fun _ h => h))
def f_X10_keep_B45 (v2 : Int32) (s0 : Int32) (s1 : Int32) (m : ej_M) : Option (Int32 × ej_M) :=
  (f_X6_hold s1 s0 v2 m).bind fun q1 =>
  some (1, q1.2)
set_option maxHeartbeats 4000000 in
set_option maxRecDepth 100000 in
theorem b_X10_keep_B45 (e : Nat) (hd : 1 ≤ e) (v2 : Int32) (s0 : Int32) (s1 : Int32) (m : ej_M) {x : (Int32 × ej_M)} {res : Option Value × ej_H} {K : (Int32 × ej_M) → Prop} (hf : f_X10_keep_B45 v2 s0 s1 m = some x) (hK : K x) (h0 : ∀ q : (Int32 × ej_M), K q → res = (some (Value.int q.1), (ej_sh, q.2))) : ej_Z cX10_keep 3 (some .int) RX10 "keep" (e + 1) 45 [(2, .int v2)] [.int s0, .int s1, .ref 37] (ej_sh, m) res := by
  unfold f_X10_keep_B45 at hf
  refine z_iload_n (pc := 45) (i := 2) (j := 0) dX10_keep_45 rfl rfl ?_
  obtain ⟨q1, hq1, hf⟩ := Option.bind_eq_some_iff.mp hf
  refine z_oVv (pc := 46) (as := [.int s1, .int s0, .int v2]) (rest := []) dX10_keep_46 lm_RX10_266 mf_X6_hold mi_X6_hold mv_X6_hold rc_37 rfl rfl (Nat.le_of_ble_eq_true rfl) (c_X6_hold e (by omega) s1 s0 v2 m hq1) ?_
  refine z_iconst (pc := 49) dX10_keep_49 ki_1 ?_
  obtain rfl := Option.some.inj hf
  rw [h0 _ hK]
  exact z_iret dX10_keep_50 rfl rfl
def f_X10_keep_B29 (v1 : Int32) (v2 : Int32) (m : ej_M) : Option (Int32 × ej_M) :=
  if v2 = (-1) then
    f_X10_keep_B45 v2 (-2) v1 m
  else
    f_X10_keep_B45 v2 (-1) v1 m
set_option maxHeartbeats 4000000 in
set_option maxRecDepth 100000 in
theorem b_X10_keep_B29 (e : Nat) (hd : 1 ≤ e) (v1 : Int32) (v2 : Int32) (m : ej_M) {x : (Int32 × ej_M)} {res : Option Value × ej_H} {K : (Int32 × ej_M) → Prop} (hf : f_X10_keep_B29 v1 v2 m = some x) (hK : K x) (h0 : ∀ q : (Int32 × ej_M), K q → res = (some (Value.int q.1), (ej_sh, q.2))) : ej_Z cX10_keep 3 (some .int) RX10 "keep" (e + 1) 29 [(0, .ref 0), (1, .int v1), (2, .int v2)] [] (ej_sh, m) res := by
  unfold f_X10_keep_B29 at hf
  refine z_aload_n (pc := 29) (i := 0) (j := 0) dX10_keep_29 rfl rfl ?_
  refine z_ogetR (pc := 30) dX10_keep_30 lf_RX10_79 sh_0 rfl rfl rfl ?_
  refine z_iload_n (pc := 33) (i := 1) (j := 1) dX10_keep_33 rfl rfl ?_
  refine z_iload_n (pc := 34) (i := 2) (j := 2) dX10_keep_34 rfl rfl ?_
  refine z_iconst (pc := 35) dX10_keep_35 ki_n1 ?_
  refine z_icmp_ne (pc := 36) (tgt := 44) dX10_keep_36 (by decide) (fun hc => ?_) (fun hc => ?_)
  · rw [if_neg hc] at hf
    refine z_iconst (pc := 44) dX10_keep_44 ki_n1 ?_
    exact z_pick [2] rfl (b_X10_keep_B45 e hd v2 (-1) v1 m (K := K) hf hK  h0)
  · rw [if_pos hc] at hf
    refine z_bipush (pc := 39) dX10_keep_39 kb_n2 ?_
    refine z_goto (pc := 41) (tgt := 45) dX10_keep_41 (by decide) ?_
    exact z_pick [2] rfl (b_X10_keep_B45 e hd v2 (-2) v1 m (K := K) hf hK  h0)
def f_X10_keep (v1 : Int32) (v2 : Int32) (m : ej_M) : Option (Int32 × ej_M) :=
  (f_X6_has v1 m).bind fun q1 =>
  if q1.1 = 0 then
    some ((-1), q1.2)
  else
    if v2 = (-1) then
      f_X10_keep_B29 v1 v2 q1.2
    else
      (f_X0_has v2 q1.2).bind fun q2 =>
      if q2.1 = 0 then
        some ((-1), q2.2)
      else
        f_X10_keep_B29 v1 v2 q2.2
set_option maxHeartbeats 4000000 in
set_option maxRecDepth 100000 in
theorem b_X10_keep (e : Nat) (hd : 1 ≤ e) (v1 : Int32) (v2 : Int32) (m : ej_M) {x : (Int32 × ej_M)} {res : Option Value × ej_H} {K : (Int32 × ej_M) → Prop} (hf : f_X10_keep v1 v2 m = some x) (hK : K x) (h0 : ∀ q : (Int32 × ej_M), K q → res = (some (Value.int q.1), (ej_sh, q.2))) : ej_Z cX10_keep 3 (some .int) RX10 "keep" (e + 1) 0 [(0, .ref 0), (1, .int v1), (2, .int v2)] [] (ej_sh, m) res := by
  unfold f_X10_keep at hf
  refine z_aload_n (pc := 0) (i := 0) (j := 0) dX10_keep_0 rfl rfl ?_
  refine z_ogetR (pc := 1) dX10_keep_1 lf_RX10_79 sh_0 rfl rfl rfl ?_
  refine z_iload_n (pc := 4) (i := 1) (j := 1) dX10_keep_4 rfl rfl ?_
  obtain ⟨q1, hq1, hf⟩ := Option.bind_eq_some_iff.mp hf
  refine z_oVi (pc := 5) (as := [.int v1]) (rest := []) dX10_keep_5 lm_RX10_87 mf_X6_has mi_X6_has mv_X6_has rc_37 rfl rfl (Nat.le_of_ble_eq_true rfl) (c_X6_has e (by omega) v1 m hq1) ?_
  refine z_if_eq (pc := 8) (tgt := 27) dX10_keep_8 (by decide) (fun hc => ?_) (fun hc => ?_)
  · rw [if_pos hc] at hf
    refine z_iconst (pc := 27) dX10_keep_27 ki_n1 ?_
    obtain rfl := Option.some.inj hf
    rw [h0 _ hK]
    exact z_iret dX10_keep_28 rfl rfl
  · rw [if_neg hc] at hf
    refine z_iload_n (pc := 11) (i := 2) (j := 2) dX10_keep_11 rfl rfl ?_
    refine z_iconst (pc := 12) dX10_keep_12 ki_n1 ?_
    refine z_icmp_eq (pc := 13) (tgt := 29) dX10_keep_13 (by decide) (fun hc => ?_) (fun hc => ?_)
    · rw [if_pos hc] at hf
      exact z_pick [0, 1, 2] rfl (b_X10_keep_B29 e hd v1 v2 q1.2 (K := K) hf hK  h0)
    · rw [if_neg hc] at hf
      refine z_aload_n (pc := 16) (i := 0) (j := 0) dX10_keep_16 rfl rfl ?_
      refine z_ogetR (pc := 17) dX10_keep_17 lf_RX10_72 sh_0 rfl rfl rfl ?_
      refine z_iload_n (pc := 20) (i := 2) (j := 2) dX10_keep_20 rfl rfl ?_
      obtain ⟨q2, hq2, hf⟩ := Option.bind_eq_some_iff.mp hf
      refine z_oVi (pc := 21) (as := [.int v2]) (rest := []) dX10_keep_21 lm_RX10_265 mf_X0_has mi_X0_has mv_X0_has rc_34 rfl rfl (Nat.le_of_ble_eq_true rfl) (c_X0_has e (by omega) v2 q1.2 hq2) ?_
      refine z_if_ne (pc := 24) (tgt := 29) dX10_keep_24 (by decide) (fun hc => ?_) (fun hc => ?_)
      · rw [if_neg hc] at hf
        exact z_pick [0, 1, 2] rfl (b_X10_keep_B29 e hd v1 v2 q2.2 (K := K) hf hK  h0)
      · rw [if_pos hc] at hf
        refine z_iconst (pc := 27) dX10_keep_27 ki_n1 ?_
        obtain rfl := Option.some.inj hf
        rw [h0 _ hK]
        exact z_iret dX10_keep_28 rfl rfl
set_option maxHeartbeats 4000000 in
set_option maxRecDepth 100000 in
theorem c_X10_keep (d : Nat) (hd : 2 ≤ d) (v1 : Int32) (v2 : Int32) (m : ej_M) {q : (Int32 × ej_M)} (hf : f_X10_keep v1 v2 m = some q) : ej_Ct yX10_keep cX10_keep 3 (some .int) d [.ref 0, .int v1, .int v2] (ej_sh, m) ((some (Value.int q.1), (ej_sh, q.2)) : Option Value × ej_H) := by
  obtain ⟨e, rfl⟩ : ∃ e, d = e + 1 := ⟨d - 1, by omega⟩
  exact z_met (by decide +kernel) (Nat.le_of_ble_eq_true rfl) (b_X10_keep e (by omega) v1 v2 m (K := fun z => ((some (Value.int q.1), (ej_sh, q.2)) : Option Value × ej_H) = (some (Value.int z.1), (ej_sh, z.2))) hf rfl (fun _ h => h))
def f_X11_keep_B22 (v1 : Int32) (v2 : Int32) (m : ej_M) : Option (Int32 × ej_M) :=
  (oj_st 0 m 66 v1 v2).bind fun m1 =>
  some (1, m1)
set_option maxHeartbeats 4000000 in
set_option maxRecDepth 100000 in
theorem b_X11_keep_B22 (e : Nat) (hd : 1 ≤ e) (v1 : Int32) (v2 : Int32) (m : ej_M) {x : (Int32 × ej_M)} {res : Option Value × ej_H} {K : (Int32 × ej_M) → Prop} (hf : f_X11_keep_B22 v1 v2 m = some x) (hK : K x) (h0 : ∀ q : (Int32 × ej_M), K q → res = (some (Value.int q.1), (ej_sh, q.2))) : ej_Z cX11_keep 3 (some .int) RX11 "keep" (e + 1) 22 [(0, .ref 41), (1, .int v1), (2, .int v2)] [] (ej_sh, m) res := by
  unfold f_X11_keep_B22 at hf
  refine z_aload_n (pc := 22) (i := 0) (j := 0) dX11_keep_22 rfl rfl ?_
  refine z_ogetR (pc := 23) dX11_keep_23 lf_RX11_84 sh_41 rfl rfl rfl ?_
  refine z_iload_n (pc := 26) (i := 1) (j := 1) dX11_keep_26 rfl rfl ?_
  refine z_iload_n (pc := 27) (i := 2) (j := 2) dX11_keep_27 rfl rfl ?_
  obtain ⟨m1, hm1, hf⟩ := Option.bind_eq_some_iff.mp hf
  refine z_oiast (pc := 28) dX11_keep_28 hm1 ?_
  refine z_iconst (pc := 29) dX11_keep_29 ki_1 ?_
  obtain rfl := Option.some.inj hf
  rw [h0 _ hK]
  exact z_iret dX11_keep_30 rfl rfl
def f_X11_keep (v1 : Int32) (v2 : Int32) (m : ej_M) : Option (Int32 × ej_M) :=
  (f_X11_isShelf v1 m).bind fun q1 =>
  if q1.1 = 0 then
    some ((-1), q1.2)
  else
    if v2 = (-1) then
      f_X11_keep_B22 v1 v2 q1.2
    else
      (f_X11_isBody v2 q1.2).bind fun q2 =>
      if q2.1 = 0 then
        some ((-1), q2.2)
      else
        f_X11_keep_B22 v1 v2 q2.2
set_option maxHeartbeats 4000000 in
set_option maxRecDepth 100000 in
theorem b_X11_keep (e : Nat) (hd : 1 ≤ e) (v1 : Int32) (v2 : Int32) (m : ej_M) {x : (Int32 × ej_M)} {res : Option Value × ej_H} {K : (Int32 × ej_M) → Prop} (hf : f_X11_keep v1 v2 m = some x) (hK : K x) (h0 : ∀ q : (Int32 × ej_M), K q → res = (some (Value.int q.1), (ej_sh, q.2))) : ej_Z cX11_keep 3 (some .int) RX11 "keep" (e + 1) 0 [(0, .ref 41), (1, .int v1), (2, .int v2)] [] (ej_sh, m) res := by
  unfold f_X11_keep at hf
  refine z_iload_n (pc := 0) (i := 1) (j := 1) dX11_keep_0 rfl rfl ?_
  obtain ⟨q1, hq1, hf⟩ := Option.bind_eq_some_iff.mp hf
  refine z_oSi (pc := 1) (as := [.int v1]) (rest := []) dX11_keep_1 lm_RX11_115 mf_X11_isShelf ms_X11_isShelf rfl rfl (Nat.le_of_ble_eq_true rfl) (c_X11_isShelf e (by omega) v1 m hq1) ?_
  refine z_if_eq (pc := 4) (tgt := 20) dX11_keep_4 (by decide) (fun hc => ?_) (fun hc => ?_)
  · rw [if_pos hc] at hf
    refine z_iconst (pc := 20) dX11_keep_20 ki_n1 ?_
    obtain rfl := Option.some.inj hf
    rw [h0 _ hK]
    exact z_iret dX11_keep_21 rfl rfl
  · rw [if_neg hc] at hf
    refine z_iload_n (pc := 7) (i := 2) (j := 2) dX11_keep_7 rfl rfl ?_
    refine z_iconst (pc := 8) dX11_keep_8 ki_n1 ?_
    refine z_icmp_eq (pc := 9) (tgt := 22) dX11_keep_9 (by decide) (fun hc => ?_) (fun hc => ?_)
    · rw [if_pos hc] at hf
      exact z_pick [0, 1, 2] rfl (b_X11_keep_B22 e hd v1 v2 q1.2 (K := K) hf hK  h0)
    · rw [if_neg hc] at hf
      refine z_aload_n (pc := 12) (i := 0) (j := 0) dX11_keep_12 rfl rfl ?_
      refine z_iload_n (pc := 13) (i := 2) (j := 2) dX11_keep_13 rfl rfl ?_
      obtain ⟨q2, hq2, hf⟩ := Option.bind_eq_some_iff.mp hf
      refine z_oVi (pc := 14) (as := [.int v2]) (rest := []) dX11_keep_14 lm_RX11_380 mf_X11_isBody mi_X11_isBody mv_X11_isBody rc_41 rfl rfl (Nat.le_of_ble_eq_true rfl) (c_X11_isBody e (by omega) v2 q1.2 hq2) ?_
      refine z_if_ne (pc := 17) (tgt := 22) dX11_keep_17 (by decide) (fun hc => ?_) (fun hc => ?_)
      · rw [if_neg hc] at hf
        exact z_pick [0, 1, 2] rfl (b_X11_keep_B22 e hd v1 v2 q2.2 (K := K) hf hK  h0)
      · rw [if_pos hc] at hf
        refine z_iconst (pc := 20) dX11_keep_20 ki_n1 ?_
        obtain rfl := Option.some.inj hf
        rw [h0 _ hK]
        exact z_iret dX11_keep_21 rfl rfl
set_option maxHeartbeats 4000000 in
set_option maxRecDepth 100000 in
theorem c_X11_keep (d : Nat) (hd : 2 ≤ d) (v1 : Int32) (v2 : Int32) (m : ej_M) {q : (Int32 × ej_M)} (hf : f_X11_keep v1 v2 m = some q) : ej_Ct yX11_keep cX11_keep 3 (some .int) d [.ref 41, .int v1, .int v2] (ej_sh, m) ((some (Value.int q.1), (ej_sh, q.2)) : Option Value × ej_H) := by
  obtain ⟨e, rfl⟩ : ∃ e, d = e + 1 := ⟨d - 1, by omega⟩
  exact z_met (by decide +kernel) (Nat.le_of_ble_eq_true rfl) (b_X11_keep e (by omega) v1 v2 m (K := fun z => ((some (Value.int q.1), (ej_sh, q.2)) : Option Value × ej_H) = (some (Value.int z.1), (ej_sh, z.2))) hf rfl (fun _ h => h))
def f_X10_row (v1 : Int32) (v2 : Int32) (v3 : Int32) (m : ej_M) : Option (Int32 × ej_M) :=
  (f_X6_has v1 m).bind fun q1 =>
  if q1.1 = 0 then
    some ((-1), q1.2)
  else
    if v2 < 0 then
      some ((-1), q1.2)
    else
      if 5 ≤ v2 then
        some ((-1), q1.2)
      else
        if v3 ≤ 60 then
          if 0 ≤ v3 then
            (f_X6_hold v1 v2 v3 q1.2).bind fun q2 =>
            some (1, q2.2)
          else
            some ((-14), q1.2)
        else
          some ((-1), q1.2)
set_option maxHeartbeats 4000000 in
set_option maxRecDepth 100000 in
theorem b_X10_row (e : Nat) (hd : 1 ≤ e) (v1 : Int32) (v2 : Int32) (v3 : Int32) (m : ej_M) {x : (Int32 × ej_M)} {res : Option Value × ej_H} {K : (Int32 × ej_M) → Prop} (hf : f_X10_row v1 v2 v3 m = some x) (hK : K x) (h0 : ∀ q : (Int32 × ej_M), K q → res = (some (Value.int q.1), (ej_sh, q.2))) : ej_Z cX10_row 4 (some .int) RX10 "row" (e + 1) 0 [(0, .ref 0), (1, .int v1), (2, .int v2), (3, .int v3)] [] (ej_sh, m) res := by
  unfold f_X10_row at hf
  refine z_aload_n (pc := 0) (i := 0) (j := 0) dX10_row_0 rfl rfl ?_
  refine z_ogetR (pc := 1) dX10_row_1 lf_RX10_79 sh_0 rfl rfl rfl ?_
  refine z_iload_n (pc := 4) (i := 1) (j := 1) dX10_row_4 rfl rfl ?_
  obtain ⟨q1, hq1, hf⟩ := Option.bind_eq_some_iff.mp hf
  refine z_oVi (pc := 5) (as := [.int v1]) (rest := []) dX10_row_5 lm_RX10_87 mf_X6_has mi_X6_has mv_X6_has rc_37 rfl rfl (Nat.le_of_ble_eq_true rfl) (c_X6_has e (by omega) v1 m hq1) ?_
  refine z_if_eq (pc := 8) (tgt := 26) dX10_row_8 (by decide) (fun hc => ?_) (fun hc => ?_)
  · rw [if_pos hc] at hf
    refine z_iconst (pc := 26) dX10_row_26 ki_n1 ?_
    obtain rfl := Option.some.inj hf
    rw [h0 _ hK]
    exact z_iret dX10_row_27 rfl rfl
  · rw [if_neg hc] at hf
    refine z_iload_n (pc := 11) (i := 2) (j := 2) dX10_row_11 rfl rfl ?_
    refine z_if_lt (pc := 12) (tgt := 26) dX10_row_12 (by decide) (fun hc => ?_) (fun hc => ?_)
    · rw [if_pos hc] at hf
      refine z_iconst (pc := 26) dX10_row_26 ki_n1 ?_
      obtain rfl := Option.some.inj hf
      rw [h0 _ hK]
      exact z_iret dX10_row_27 rfl rfl
    · rw [if_neg hc] at hf
      refine z_iload_n (pc := 15) (i := 2) (j := 2) dX10_row_15 rfl rfl ?_
      refine z_iconst (pc := 16) dX10_row_16 ki_5 ?_
      refine z_icmp_ge (pc := 17) (tgt := 26) dX10_row_17 (by decide) (fun hc => ?_) (fun hc => ?_)
      · rw [if_pos hc] at hf
        refine z_iconst (pc := 26) dX10_row_26 ki_n1 ?_
        obtain rfl := Option.some.inj hf
        rw [h0 _ hK]
        exact z_iret dX10_row_27 rfl rfl
      · rw [if_neg hc] at hf
        refine z_iload_n (pc := 20) (i := 3) (j := 3) dX10_row_20 rfl rfl ?_
        refine z_bipush (pc := 21) dX10_row_21 kb_60 ?_
        refine z_icmp_le (pc := 23) (tgt := 28) dX10_row_23 (by decide) (fun hc => ?_) (fun hc => ?_)
        · rw [if_pos hc] at hf
          refine z_iload_n (pc := 28) (i := 3) (j := 3) dX10_row_28 rfl rfl ?_
          refine z_if_ge (pc := 29) (tgt := 35) dX10_row_29 (by decide) (fun hc => ?_) (fun hc => ?_)
          · rw [if_pos hc] at hf
            refine z_aload_n (pc := 35) (i := 0) (j := 0) dX10_row_35 rfl rfl ?_
            refine z_ogetR (pc := 36) dX10_row_36 lf_RX10_79 sh_0 rfl rfl rfl ?_
            refine z_iload_n (pc := 39) (i := 1) (j := 1) dX10_row_39 rfl rfl ?_
            refine z_iload_n (pc := 40) (i := 2) (j := 2) dX10_row_40 rfl rfl ?_
            refine z_iload_n (pc := 41) (i := 3) (j := 3) dX10_row_41 rfl rfl ?_
            obtain ⟨q2, hq2, hf⟩ := Option.bind_eq_some_iff.mp hf
            refine z_oVv (pc := 42) (as := [.int v1, .int v2, .int v3]) (rest := []) dX10_row_42 lm_RX10_266 mf_X6_hold mi_X6_hold mv_X6_hold rc_37 rfl rfl (Nat.le_of_ble_eq_true rfl) (c_X6_hold e (by omega) v1 v2 v3 q1.2 hq2) ?_
            refine z_iconst (pc := 45) dX10_row_45 ki_1 ?_
            obtain rfl := Option.some.inj hf
            rw [h0 _ hK]
            exact z_iret dX10_row_46 rfl rfl
          · rw [if_neg hc] at hf
            refine z_bipush (pc := 32) dX10_row_32 kb_n14 ?_
            obtain rfl := Option.some.inj hf
            rw [h0 _ hK]
            exact z_iret dX10_row_34 rfl rfl
        · rw [if_neg hc] at hf
          refine z_iconst (pc := 26) dX10_row_26 ki_n1 ?_
          obtain rfl := Option.some.inj hf
          rw [h0 _ hK]
          exact z_iret dX10_row_27 rfl rfl
set_option maxHeartbeats 4000000 in
set_option maxRecDepth 100000 in
theorem c_X10_row (d : Nat) (hd : 2 ≤ d) (v1 : Int32) (v2 : Int32) (v3 : Int32) (m : ej_M) {q : (Int32 × ej_M)} (hf : f_X10_row v1 v2 v3 m = some q) : ej_Ct yX10_row cX10_row 4 (some .int) d [.ref 0, .int v1, .int v2, .int v3] (ej_sh, m) ((some (Value.int q.1), (ej_sh, q.2)) : Option Value × ej_H) := by
  obtain ⟨e, rfl⟩ : ∃ e, d = e + 1 := ⟨d - 1, by omega⟩
  exact z_met (by decide +kernel) (Nat.le_of_ble_eq_true rfl) (b_X10_row e (by omega) v1 v2 v3 m (K := fun z => ((some (Value.int q.1), (ej_sh, q.2)) : Option Value × ej_H) = (some (Value.int z.1), (ej_sh, z.2))) hf rfl (fun _ h => h))
def f_X11_row_L54b (v1 : Int32) (v4 : Int32) (m : ej_M) : Option ((Int32 × ej_M) ⊕ (Int32 × ej_M)) :=
  if ((60 * v1) + 60) ≤ v4 then
    some (Sum.inr (1, m))
  else
    (oj_sl m 68 v4 (0 : Int64)).bind fun m1 =>
    some (Sum.inl ((v4 + 1), m1))
set_option maxHeartbeats 4000000 in
set_option maxRecDepth 100000 in
theorem b_X11_row_L54b (e : Nat) (hd : 1 ≤ e) (v1 : Int32) (v4 : Int32) (m : ej_M) {x : ((Int32 × ej_M) ⊕ (Int32 × ej_M))} {res : Option Value × ej_H} {K : ((Int32 × ej_M) ⊕ (Int32 × ej_M)) → Prop} (hf : f_X11_row_L54b v1 v4 m = some x) (hK : K x) (h1 : ∀ q : (Int32 × ej_M), K (Sum.inl q) → ej_Z cX11_row 5 (some .int) RX11 "row" (e + 1) 54 [(0, .ref 41), (1, .int v1), (4, .int q.1)] [] (ej_sh, q.2) res) (h0 : ∀ q : (Int32 × ej_M), K (Sum.inr q) → res = (some (Value.int q.1), (ej_sh, q.2))) : ej_Z cX11_row 5 (some .int) RX11 "row" (e + 1) 54 [(0, .ref 41), (1, .int v1), (4, .int v4)] [] (ej_sh, m) res := by
  unfold f_X11_row_L54b at hf
  refine z_iload (pc := 54) (i := 4) (j := 2) dX11_row_54 rfl ?_
  refine z_bipush (pc := 56) dX11_row_56 kb_60 ?_
  refine z_iload_n (pc := 58) (i := 1) (j := 1) dX11_row_58 rfl rfl ?_
  refine z_imul (pc := 59) dX11_row_59 ?_
  refine z_bipush (pc := 60) dX11_row_60 kb_60 ?_
  refine z_iadd (pc := 62) dX11_row_62 ?_
  refine z_icmp_ge (pc := 63) (tgt := 80) dX11_row_63 (by decide) (fun hc => ?_) (fun hc => ?_)
  · rw [if_pos hc] at hf
    refine z_iconst (pc := 80) dX11_row_80 ki_1 ?_
    obtain rfl := Option.some.inj hf
    rw [h0 _ hK]
    exact z_iret dX11_row_81 rfl rfl
  · rw [if_neg hc] at hf
    refine z_aload_n (pc := 66) (i := 0) (j := 0) dX11_row_66 rfl rfl ?_
    refine z_ogetR (pc := 67) dX11_row_67 lf_RX11_90 sh_41 rfl rfl rfl ?_
    refine z_iload (pc := 70) (i := 4) (j := 2) dX11_row_70 rfl ?_
    refine z_lconst (pc := 72) dX11_row_72 kl_0 ?_
    obtain ⟨m1, hm1, hf⟩ := Option.bind_eq_some_iff.mp hf
    refine z_olast (pc := 73) dX11_row_73 hm1 ?_
    refine z_iinc (pc := 74) (j := 2) (ls' := [(4, .int (v4 + 1)), (0, .ref 41), (1, .int v1)]) dX11_row_74 rfl ki_1 (Nat.le_of_ble_eq_true rfl) rfl ?_
    refine z_goto (pc := 77) (tgt := 54) dX11_row_77 (by decide) ?_
    obtain rfl := Option.some.inj hf
    exact z_pick (ls' := [(0, .ref 41), (1, .int v1), (4, .int (v4 + 1))]) [1, 2, 0] rfl (h1 ((v4 + 1), m1) hK)
def f_X11_row_L54 (v1 : Int32) (v4 : Int32) (m : ej_M) : Option (Int32 × ej_M) := oj_loop (fun q : (Int32 × ej_M) => f_X11_row_L54b v1 q.1 q.2) oj_FU (v4, m)
set_option maxHeartbeats 4000000 in
set_option maxRecDepth 100000 in
theorem b_X11_row_L54 (e : Nat) (hd : 1 ≤ e) (v1 : Int32) (v4 : Int32) (m : ej_M) {x : (Int32 × ej_M)} {res : Option Value × ej_H} {K : (Int32 × ej_M) → Prop} (hf : f_X11_row_L54 v1 v4 m = some x) (hK : K x) (h0 : ∀ q : (Int32 × ej_M), K q → res = (some (Value.int q.1), (ej_sh, q.2))) : ej_Z cX11_row 5 (some .int) RX11 "row" (e + 1) 54 [(0, .ref 41), (1, .int v1), (4, .int v4)] [] (ej_sh, m) res :=
  oj_loop_Z (body := fun q : (Int32 × ej_M) => f_X11_row_L54b v1 q.1 q.2) (P := fun q : (Int32 × ej_M) => ej_Z cX11_row 5 (some .int) RX11 "row" (e + 1) 54 [(0, .ref 41), (1, .int v1), (4, .int q.1)] [] (ej_sh, q.2) res) (K := K) (fun s x hb hl hr => b_X11_row_L54b e hd v1  s.1 s.2 (K := fun x => (∀ s' : (Int32 × ej_M), x = Sum.inl s' → ej_Z cX11_row 5 (some .int) RX11 "row" (e + 1) 54 [(0, .ref 41), (1, .int v1), (4, .int s'.1)] [] (ej_sh, s'.2) res) ∧ ∀ e, x = Sum.inr e → K e) hb ⟨hl, hr⟩ (fun q hq => hq.1 q rfl) (fun q hq => h0 q (hq.2 _ rfl))) oj_FU (v4, m) x hf hK
def f_X11_row (v1 : Int32) (v2 : Int32) (v3 : Int32) (m : ej_M) : Option (Int32 × ej_M) :=
  (f_X11_isShelf v1 m).bind fun q1 =>
  if q1.1 = 0 then
    some ((-1), q1.2)
  else
    (f_X11_in v2 0 4 q1.2).bind fun q2 =>
    if q2.1 = 0 then
      some ((-1), q2.2)
    else
      if v3 ≤ 60 then
        if 0 ≤ v3 then
          (oj_st 0 q2.2 66 v1 ((-2) - v2)).bind fun m3 =>
          (oj_st 0 m3 67 v1 v3).bind fun m4 =>
          f_X11_row_L54 v1 (60 * v1) m4
        else
          some ((-14), q2.2)
      else
        some ((-1), q2.2)
set_option maxHeartbeats 4000000 in
set_option maxRecDepth 100000 in
theorem b_X11_row (e : Nat) (hd : 1 ≤ e) (v1 : Int32) (v2 : Int32) (v3 : Int32) (m : ej_M) {x : (Int32 × ej_M)} {res : Option Value × ej_H} {K : (Int32 × ej_M) → Prop} (hf : f_X11_row v1 v2 v3 m = some x) (hK : K x) (h0 : ∀ q : (Int32 × ej_M), K q → res = (some (Value.int q.1), (ej_sh, q.2))) : ej_Z cX11_row 5 (some .int) RX11 "row" (e + 1) 0 [(0, .ref 41), (1, .int v1), (2, .int v2), (3, .int v3)] [] (ej_sh, m) res := by
  unfold f_X11_row at hf
  refine z_iload_n (pc := 0) (i := 1) (j := 1) dX11_row_0 rfl rfl ?_
  obtain ⟨q1, hq1, hf⟩ := Option.bind_eq_some_iff.mp hf
  refine z_oSi (pc := 1) (as := [.int v1]) (rest := []) dX11_row_1 lm_RX11_115 mf_X11_isShelf ms_X11_isShelf rfl rfl (Nat.le_of_ble_eq_true rfl) (c_X11_isShelf e (by omega) v1 m hq1) ?_
  refine z_if_eq (pc := 4) (tgt := 22) dX11_row_4 (by decide) (fun hc => ?_) (fun hc => ?_)
  · rw [if_pos hc] at hf
    refine z_iconst (pc := 22) dX11_row_22 ki_n1 ?_
    obtain rfl := Option.some.inj hf
    rw [h0 _ hK]
    exact z_iret dX11_row_23 rfl rfl
  · rw [if_neg hc] at hf
    refine z_iload_n (pc := 7) (i := 2) (j := 2) dX11_row_7 rfl rfl ?_
    refine z_iconst (pc := 8) dX11_row_8 ki_0 ?_
    refine z_iconst (pc := 9) dX11_row_9 ki_4 ?_
    obtain ⟨q2, hq2, hf⟩ := Option.bind_eq_some_iff.mp hf
    refine z_oSi (pc := 10) (as := [.int v2, .int 0, .int 4]) (rest := []) dX11_row_10 lm_RX11_104 mf_X11_in ms_X11_in rfl rfl (Nat.le_of_ble_eq_true rfl) (c_X11_in e (by omega) v2 0 4 q1.2 hq2) ?_
    refine z_if_eq (pc := 13) (tgt := 22) dX11_row_13 (by decide) (fun hc => ?_) (fun hc => ?_)
    · rw [if_pos hc] at hf
      refine z_iconst (pc := 22) dX11_row_22 ki_n1 ?_
      obtain rfl := Option.some.inj hf
      rw [h0 _ hK]
      exact z_iret dX11_row_23 rfl rfl
    · rw [if_neg hc] at hf
      refine z_iload_n (pc := 16) (i := 3) (j := 3) dX11_row_16 rfl rfl ?_
      refine z_bipush (pc := 17) dX11_row_17 kb_60 ?_
      refine z_icmp_le (pc := 19) (tgt := 24) dX11_row_19 (by decide) (fun hc => ?_) (fun hc => ?_)
      · rw [if_pos hc] at hf
        refine z_iload_n (pc := 24) (i := 3) (j := 3) dX11_row_24 rfl rfl ?_
        refine z_if_ge (pc := 25) (tgt := 31) dX11_row_25 (by decide) (fun hc => ?_) (fun hc => ?_)
        · rw [if_pos hc] at hf
          refine z_aload_n (pc := 31) (i := 0) (j := 0) dX11_row_31 rfl rfl ?_
          refine z_ogetR (pc := 32) dX11_row_32 lf_RX11_84 sh_41 rfl rfl rfl ?_
          refine z_iload_n (pc := 35) (i := 1) (j := 1) dX11_row_35 rfl rfl ?_
          refine z_bipush (pc := 36) dX11_row_36 kb_n2 ?_
          refine z_iload_n (pc := 38) (i := 2) (j := 2) dX11_row_38 rfl rfl ?_
          refine z_isub (pc := 39) dX11_row_39 ?_
          obtain ⟨m3, hm3, hf⟩ := Option.bind_eq_some_iff.mp hf
          refine z_oiast (pc := 40) dX11_row_40 hm3 ?_
          refine z_aload_n (pc := 41) (i := 0) (j := 0) dX11_row_41 rfl rfl ?_
          refine z_ogetR (pc := 42) dX11_row_42 lf_RX11_87 sh_41 rfl rfl rfl ?_
          refine z_iload_n (pc := 45) (i := 1) (j := 1) dX11_row_45 rfl rfl ?_
          refine z_iload_n (pc := 46) (i := 3) (j := 3) dX11_row_46 rfl rfl ?_
          obtain ⟨m4, hm4, hf⟩ := Option.bind_eq_some_iff.mp hf
          refine z_oiast (pc := 47) dX11_row_47 hm4 ?_
          refine z_bipush (pc := 48) dX11_row_48 kb_60 ?_
          refine z_iload_n (pc := 50) (i := 1) (j := 1) dX11_row_50 rfl rfl ?_
          refine z_imul (pc := 51) dX11_row_51 ?_
          refine z_istore (pc := 52) (i := 4) (ls' := [(4, .int (60 * v1)), (0, .ref 41), (1, .int v1), (2, .int v2), (3, .int v3)]) dX11_row_52 (Nat.le_of_ble_eq_true rfl) rfl ?_
          exact z_pick [1, 2, 0] rfl (b_X11_row_L54 e hd v1 (60 * v1) m4 (K := K) hf hK  h0)
        · rw [if_neg hc] at hf
          refine z_bipush (pc := 28) dX11_row_28 kb_n14 ?_
          obtain rfl := Option.some.inj hf
          rw [h0 _ hK]
          exact z_iret dX11_row_30 rfl rfl
      · rw [if_neg hc] at hf
        refine z_iconst (pc := 22) dX11_row_22 ki_n1 ?_
        obtain rfl := Option.some.inj hf
        rw [h0 _ hK]
        exact z_iret dX11_row_23 rfl rfl
set_option maxHeartbeats 4000000 in
set_option maxRecDepth 100000 in
theorem c_X11_row (d : Nat) (hd : 2 ≤ d) (v1 : Int32) (v2 : Int32) (v3 : Int32) (m : ej_M) {q : (Int32 × ej_M)} (hf : f_X11_row v1 v2 v3 m = some q) : ej_Ct yX11_row cX11_row 5 (some .int) d [.ref 41, .int v1, .int v2, .int v3] (ej_sh, m) ((some (Value.int q.1), (ej_sh, q.2)) : Option Value × ej_H) := by
  obtain ⟨e, rfl⟩ : ∃ e, d = e + 1 := ⟨d - 1, by omega⟩
  exact z_met (by decide +kernel) (Nat.le_of_ble_eq_true rfl) (b_X11_row e (by omega) v1 v2 v3 m (K := fun z => ((some (Value.int q.1), (ej_sh, q.2)) : Option Value × ej_H) = (some (Value.int z.1), (ej_sh, z.2))) hf rfl (fun _ h => h))
def f_X6_narrowed (v0 : Int32) (v1 : Int64) (m : ej_M) : Option (Int64 × ej_M) :=
  if v0 = 0 then
    some ((Int32.toInt64 ((Int32.toInt8 (Int64.toInt32 v1)).toInt32)), m)
  else
    if v0 = 1 then
      some ((Int32.toInt64 ((Int32.toInt16 (Int64.toInt32 v1)).toInt32)), m)
    else
      if v0 = 2 then
        some ((Int32.toInt64 (Int64.toInt32 v1)), m)
      else
        if v0 = 3 then
          some (v1, m)
        else
          if (lg_cmp v1 (0 : Int64)) = 0 then
            some ((0 : Int64), m)
          else
            some ((1 : Int64), m)
set_option maxHeartbeats 4000000 in
set_option maxRecDepth 100000 in
theorem b_X6_narrowed (d : Nat) (v0 : Int32) (v1 : Int64) (m : ej_M) {x : (Int64 × ej_M)} {res : Option Value × ej_H} {K : (Int64 × ej_M) → Prop} (hf : f_X6_narrowed v0 v1 m = some x) (hK : K x) (h0 : ∀ q : (Int64 × ej_M), K q → res = (some (Value.long q.1), (ej_sh, q.2))) : ej_Z cX6_narrowed 3 (some .long) RX6 "narrowed" d 0 [(0, .int v0), (1, .long v1)] [] (ej_sh, m) res := by
  unfold f_X6_narrowed at hf
  refine z_iload_n (pc := 0) (i := 0) (j := 0) dX6_narrowed_0 rfl rfl ?_
  by_cases hs0 : v0 = 0
  · rw [if_pos hs0] at hf
    refine z_tabIn (pc := 1) (off := 31) (tgt := 32) dX6_narrowed_1 (by rw [hs0]; decide) (by rw [hs0]; decide) (by rw [hs0]; rfl) (by decide) ?_
    refine z_lload_n (pc := 32) (i := 1) (j := 1) dX6_narrowed_32 rfl rfl ?_
    refine z_l2i (pc := 33) dX6_narrowed_33 ?_
    refine z_i2b (pc := 34) dX6_narrowed_34 ?_
    refine z_i2l (pc := 35) dX6_narrowed_35 ?_
    obtain rfl := Option.some.inj hf
    rw [h0 _ hK]
    exact z_lret dX6_narrowed_36 rfl
  · rw [if_neg hs0] at hf
    by_cases hs1 : v0 = 1
    · rw [if_pos hs1] at hf
      refine z_tabIn (pc := 1) (off := 36) (tgt := 37) dX6_narrowed_1 (by rw [hs1]; decide) (by rw [hs1]; decide) (by rw [hs1]; rfl) (by decide) ?_
      refine z_lload_n (pc := 37) (i := 1) (j := 1) dX6_narrowed_37 rfl rfl ?_
      refine z_l2i (pc := 38) dX6_narrowed_38 ?_
      refine z_i2s (pc := 39) dX6_narrowed_39 ?_
      refine z_i2l (pc := 40) dX6_narrowed_40 ?_
      obtain rfl := Option.some.inj hf
      rw [h0 _ hK]
      exact z_lret dX6_narrowed_41 rfl
    · rw [if_neg hs1] at hf
      by_cases hs2 : v0 = 2
      · rw [if_pos hs2] at hf
        refine z_tabIn (pc := 1) (off := 41) (tgt := 42) dX6_narrowed_1 (by rw [hs2]; decide) (by rw [hs2]; decide) (by rw [hs2]; rfl) (by decide) ?_
        refine z_lload_n (pc := 42) (i := 1) (j := 1) dX6_narrowed_42 rfl rfl ?_
        refine z_l2i (pc := 43) dX6_narrowed_43 ?_
        refine z_i2l (pc := 44) dX6_narrowed_44 ?_
        obtain rfl := Option.some.inj hf
        rw [h0 _ hK]
        exact z_lret dX6_narrowed_45 rfl
      · rw [if_neg hs2] at hf
        by_cases hs3 : v0 = 3
        · rw [if_pos hs3] at hf
          refine z_tabIn (pc := 1) (off := 45) (tgt := 46) dX6_narrowed_1 (by rw [hs3]; decide) (by rw [hs3]; decide) (by rw [hs3]; rfl) (by decide) ?_
          refine z_lload_n (pc := 46) (i := 1) (j := 1) dX6_narrowed_46 rfl rfl ?_
          obtain rfl := Option.some.inj hf
          rw [h0 _ hK]
          exact z_lret dX6_narrowed_47 rfl
        · rw [if_neg hs3] at hf
          refine z_tabD (pc := 1) (tgt := 48) dX6_narrowed_1 (by decide) (fun k hk => ?_) (by decide) ?_
          · have hk9 : k = 0 ∨ k = 1 ∨ k = 2 ∨ k = 3 := by have hk8 : k < 4 := hk; omega
            rcases hk9 with rfl | rfl | rfl | rfl
            · exact Or.inr (by have := lv_neT hs0 (show (0 : Int32).toInt = 0 by decide); omega)
            · exact Or.inr (by have := lv_neT hs1 (show (1 : Int32).toInt = 1 by decide); omega)
            · exact Or.inr (by have := lv_neT hs2 (show (2 : Int32).toInt = 2 by decide); omega)
            · exact Or.inr (by have := lv_neT hs3 (show (3 : Int32).toInt = 3 by decide); omega)
          refine z_lload_n (pc := 48) (i := 1) (j := 1) dX6_narrowed_48 rfl rfl ?_
          refine z_lconst (pc := 49) dX6_narrowed_49 kl_0 ?_
          refine z_lcmp (pc := 50) dX6_narrowed_50 ?_
          refine z_if_eq (pc := 51) (tgt := 58) dX6_narrowed_51 (by decide) (fun hc => ?_) (fun hc => ?_)
          · rw [if_pos hc] at hf
            refine z_lconst (pc := 58) dX6_narrowed_58 kl_0 ?_
            obtain rfl := Option.some.inj hf
            rw [h0 _ hK]
            exact z_lret dX6_narrowed_59 rfl
          · rw [if_neg hc] at hf
            refine z_lconst (pc := 54) dX6_narrowed_54 kl_1 ?_
            refine z_goto (pc := 55) (tgt := 59) dX6_narrowed_55 (by decide) ?_
            obtain rfl := Option.some.inj hf
            rw [h0 _ hK]
            exact z_lret dX6_narrowed_59 rfl
set_option maxHeartbeats 4000000 in
set_option maxRecDepth 100000 in
theorem c_X6_narrowed (d : Nat) (hd : 0 ≤ d) (v0 : Int32) (v1 : Int64) (m : ej_M) {q : (Int64 × ej_M)} (hf : f_X6_narrowed v0 v1 m = some q) : ej_Ct yX6_narrowed cX6_narrowed 3 (some .long) d [.int v0, .long v1] (ej_sh, m) ((some (Value.long q.1), (ej_sh, q.2)) : Option Value × ej_H) := by
  exact z_met (by decide +kernel) (Nat.le_of_ble_eq_true rfl) (b_X6_narrowed d v0 v1 m (K := fun z => ((some (Value.long q.1), (ej_sh, q.2)) : Option Value × ej_H) = (some (Value.long z.1), (ej_sh, z.2))) hf rfl (fun _ h => h))
def f_X6_enter (v1 : Int32) (v2 : Int32) (v3 : Int64) (m : ej_M) : Option (Unit × ej_M) :=
  (f_X10_at 38 v1 m).bind fun q1 =>
  (f_X6_narrowed q1.1 v3 q1.2).bind fun q2 =>
  (f_X6_store v1 v2 q2.1 q2.2).bind fun q3 =>
  some ((), q3.2)
set_option maxHeartbeats 4000000 in
set_option maxRecDepth 100000 in
theorem b_X6_enter (e : Nat) (hd : 0 ≤ e) (v1 : Int32) (v2 : Int32) (v3 : Int64) (m : ej_M) {x : (Unit × ej_M)} {res : Option Value × ej_H} {K : (Unit × ej_M) → Prop} (hf : f_X6_enter v1 v2 v3 m = some x) (hK : K x) (h0 : ∀ q : (Unit × ej_M), K q → res = (none, (ej_sh, q.2))) : ej_Z cX6_enter 5 none RX6 "enter" (e + 1) 0 [(0, .ref 37), (1, .int v1), (2, .int v2), (3, .long v3)] [] (ej_sh, m) res := by
  unfold f_X6_enter at hf
  refine z_aload_n (pc := 0) (i := 0) (j := 0) dX6_enter_0 rfl rfl ?_
  refine z_iload_n (pc := 1) (i := 1) (j := 1) dX6_enter_1 rfl rfl ?_
  refine z_iload_n (pc := 2) (i := 2) (j := 2) dX6_enter_2 rfl rfl ?_
  refine z_aload_n (pc := 3) (i := 0) (j := 0) dX6_enter_3 rfl rfl ?_
  refine z_ogetR (pc := 4) dX6_enter_4 lf_RX6_11 sh_37 rfl rfl rfl ?_
  refine z_iload_n (pc := 7) (i := 1) (j := 1) dX6_enter_7 rfl rfl ?_
  obtain ⟨q1, hq1, hf⟩ := Option.bind_eq_some_iff.mp hf
  refine z_oSi (pc := 8) (as := [.ref 38, .int v1]) (rest := [.int v2, .int v1, .ref 37]) dX6_enter_8 lm_RX6_26 mf_X10_at ms_X10_at rfl rfl (Nat.le_of_ble_eq_true rfl) (c_X10_at e (by omega) 38 v1 m hq1) ?_
  refine z_lload_n (pc := 11) (i := 3) (j := 3) dX6_enter_11 rfl rfl ?_
  obtain ⟨q2, hq2, hf⟩ := Option.bind_eq_some_iff.mp hf
  refine z_oSl (pc := 12) (as := [.int q1.1, .long v3]) (rest := [.int v2, .int v1, .ref 37]) dX6_enter_12 lm_RX6_51 mf_X6_narrowed ms_X6_narrowed rfl rfl (Nat.le_of_ble_eq_true rfl) (c_X6_narrowed e (by omega) q1.1 v3 q1.2 hq2) ?_
  obtain ⟨q3, hq3, hf⟩ := Option.bind_eq_some_iff.mp hf
  refine z_oVv (pc := 15) (as := [.int v1, .int v2, .long q2.1]) (rest := []) dX6_enter_15 lm_RX6_30 mf_X6_store mi_X6_store mv_X6_store rc_37 rfl rfl (Nat.le_of_ble_eq_true rfl) (c_X6_store e (by omega) v1 v2 q2.1 q2.2 hq3) ?_
  obtain rfl := Option.some.inj hf
  rw [h0 _ hK]
  exact z_ret dX6_enter_18 rfl
set_option maxHeartbeats 4000000 in
set_option maxRecDepth 100000 in
theorem c_X6_enter (d : Nat) (hd : 1 ≤ d) (v1 : Int32) (v2 : Int32) (v3 : Int64) (m : ej_M) {q : (Unit × ej_M)} (hf : f_X6_enter v1 v2 v3 m = some q) : ej_Ct yX6_enter cX6_enter 5 none d [.ref 37, .int v1, .int v2, .long v3] (ej_sh, m) ((none, (ej_sh, q.2)) : Option Value × ej_H) := by
  obtain ⟨e, rfl⟩ : ∃ e, d = e + 1 := ⟨d - 1, by omega⟩
  exact z_met (by decide +kernel) (Nat.le_of_ble_eq_true rfl) (b_X6_enter e (by omega) v1 v2 v3 m (K := fun z => ((none, (ej_sh, q.2)) : Option Value × ej_H) = (none, (ej_sh, z.2))) hf rfl (fun _ h => h))
def f_X6_refusesElement (v1 : Int32) (v2 : Int32) (m : ej_M) : Option (Int32 × ej_M) :=
  (f_X6_refusesRow v1 m).bind fun q1 =>
  if q1.1 = 0 then
    if v2 < 0 then
      some ((-13), q1.2)
    else
      (f_X6_length v1 q1.2).bind fun q2 =>
      if q2.1 ≤ v2 then
        some ((-13), q2.2)
      else
        some (0, q2.2)
  else
    some (q1.1, q1.2)
set_option maxHeartbeats 4000000 in
set_option maxRecDepth 100000 in
theorem b_X6_refusesElement (e : Nat) (hd : 2 ≤ e) (v1 : Int32) (v2 : Int32) (m : ej_M) {x : (Int32 × ej_M)} {res : Option Value × ej_H} {K : (Int32 × ej_M) → Prop} (hf : f_X6_refusesElement v1 v2 m = some x) (hK : K x) (h0 : ∀ q : (Int32 × ej_M), K q → res = (some (Value.int q.1), (ej_sh, q.2))) : ej_Z cX6_refusesElement 4 (some .int) RX6 "refusesElement" (e + 1) 0 [(0, .ref 37), (1, .int v1), (2, .int v2)] [] (ej_sh, m) res := by
  unfold f_X6_refusesElement at hf
  refine z_aload_n (pc := 0) (i := 0) (j := 0) dX6_refusesElement_0 rfl rfl ?_
  refine z_iload_n (pc := 1) (i := 1) (j := 1) dX6_refusesElement_1 rfl rfl ?_
  obtain ⟨q1, hq1, hf⟩ := Option.bind_eq_some_iff.mp hf
  refine z_oVi (pc := 2) (as := [.int v1]) (rest := []) dX6_refusesElement_2 lm_RX6_44 mf_X6_refusesRow mi_X6_refusesRow mv_X6_refusesRow rc_37 rfl rfl (Nat.le_of_ble_eq_true rfl) (c_X6_refusesRow e (by omega) v1 m hq1) ?_
  refine z_istore_n (pc := 5) (i := 3) (ls' := [(3, .int q1.1), (0, .ref 37), (1, .int v1), (2, .int v2)]) dX6_refusesElement_5 rfl (Nat.le_of_ble_eq_true rfl) rfl ?_
  refine z_iload_n (pc := 6) (i := 3) (j := 0) dX6_refusesElement_6 rfl rfl ?_
  refine z_if_eq (pc := 7) (tgt := 12) dX6_refusesElement_7 (by decide) (fun hc => ?_) (fun hc => ?_)
  · rw [if_pos hc] at hf
    refine z_iload_n (pc := 12) (i := 2) (j := 3) dX6_refusesElement_12 rfl rfl ?_
    refine z_if_lt (pc := 13) (tgt := 29) dX6_refusesElement_13 (by decide) (fun hc => ?_) (fun hc => ?_)
    · rw [if_pos hc] at hf
      refine z_bipush (pc := 29) dX6_refusesElement_29 kb_n13 ?_
      obtain rfl := Option.some.inj hf
      rw [h0 _ hK]
      exact z_iret dX6_refusesElement_31 rfl rfl
    · rw [if_neg hc] at hf
      refine z_iload_n (pc := 16) (i := 2) (j := 3) dX6_refusesElement_16 rfl rfl ?_
      refine z_aload_n (pc := 17) (i := 0) (j := 1) dX6_refusesElement_17 rfl rfl ?_
      refine z_iload_n (pc := 18) (i := 1) (j := 2) dX6_refusesElement_18 rfl rfl ?_
      obtain ⟨q2, hq2, hf⟩ := Option.bind_eq_some_iff.mp hf
      refine z_oVi (pc := 19) (as := [.int v1]) (rest := [.int v2]) dX6_refusesElement_19 lm_RX6_48 mf_X6_length mi_X6_length mv_X6_length rc_37 rfl rfl (Nat.le_of_ble_eq_true rfl) (c_X6_length e (by omega) v1 q1.2 hq2) ?_
      refine z_icmp_ge (pc := 22) (tgt := 29) dX6_refusesElement_22 (by decide) (fun hc => ?_) (fun hc => ?_)
      · rw [if_pos hc] at hf
        refine z_bipush (pc := 29) dX6_refusesElement_29 kb_n13 ?_
        obtain rfl := Option.some.inj hf
        rw [h0 _ hK]
        exact z_iret dX6_refusesElement_31 rfl rfl
      · rw [if_neg hc] at hf
        refine z_iconst (pc := 25) dX6_refusesElement_25 ki_0 ?_
        refine z_goto (pc := 26) (tgt := 31) dX6_refusesElement_26 (by decide) ?_
        obtain rfl := Option.some.inj hf
        rw [h0 _ hK]
        exact z_iret dX6_refusesElement_31 rfl rfl
  · rw [if_neg hc] at hf
    refine z_iload_n (pc := 10) (i := 3) (j := 0) dX6_refusesElement_10 rfl rfl ?_
    obtain rfl := Option.some.inj hf
    rw [h0 _ hK]
    exact z_iret dX6_refusesElement_11 rfl rfl
set_option maxHeartbeats 4000000 in
set_option maxRecDepth 100000 in
theorem c_X6_refusesElement (d : Nat) (hd : 3 ≤ d) (v1 : Int32) (v2 : Int32) (m : ej_M) {q : (Int32 × ej_M)} (hf : f_X6_refusesElement v1 v2 m = some q) : ej_Ct yX6_refusesElement cX6_refusesElement 4 (some .int) d [.ref 37, .int v1, .int v2] (ej_sh, m) ((some (Value.int q.1), (ej_sh, q.2)) : Option Value × ej_H) := by
  obtain ⟨e, rfl⟩ : ∃ e, d = e + 1 := ⟨d - 1, by omega⟩
  exact z_met (by decide +kernel) (Nat.le_of_ble_eq_true rfl) (b_X6_refusesElement e (by omega) v1 v2 m (K := fun z => ((some (Value.int q.1), (ej_sh, q.2)) : Option Value × ej_H) = (some (Value.int z.1), (ej_sh, z.2))) hf rfl (fun _ h => h))
def f_X10_put (v1 : Int32) (v2 : Int32) (v3 : Int64) (m : ej_M) : Option (Int32 × ej_M) :=
  (f_X6_refusesElement v1 v2 m).bind fun q1 =>
  if q1.1 = 0 then
    (f_X6_enter v1 v2 v3 q1.2).bind fun q2 =>
    some (1, q2.2)
  else
    some (q1.1, q1.2)
set_option maxHeartbeats 4000000 in
set_option maxRecDepth 100000 in
theorem b_X10_put (e : Nat) (hd : 3 ≤ e) (v1 : Int32) (v2 : Int32) (v3 : Int64) (m : ej_M) {x : (Int32 × ej_M)} {res : Option Value × ej_H} {K : (Int32 × ej_M) → Prop} (hf : f_X10_put v1 v2 v3 m = some x) (hK : K x) (h0 : ∀ q : (Int32 × ej_M), K q → res = (some (Value.int q.1), (ej_sh, q.2))) : ej_Z cX10_put 6 (some .int) RX10 "put" (e + 1) 0 [(0, .ref 0), (1, .int v1), (2, .int v2), (3, .long v3)] [] (ej_sh, m) res := by
  unfold f_X10_put at hf
  refine z_aload_n (pc := 0) (i := 0) (j := 0) dX10_put_0 rfl rfl ?_
  refine z_ogetR (pc := 1) dX10_put_1 lf_RX10_79 sh_0 rfl rfl rfl ?_
  refine z_iload_n (pc := 4) (i := 1) (j := 1) dX10_put_4 rfl rfl ?_
  refine z_iload_n (pc := 5) (i := 2) (j := 2) dX10_put_5 rfl rfl ?_
  obtain ⟨q1, hq1, hf⟩ := Option.bind_eq_some_iff.mp hf
  refine z_oVi (pc := 6) (as := [.int v1, .int v2]) (rest := []) dX10_put_6 lm_RX10_270 mf_X6_refusesElement mi_X6_refusesElement mv_X6_refusesElement rc_37 rfl rfl (Nat.le_of_ble_eq_true rfl) (c_X6_refusesElement e (by omega) v1 v2 m hq1) ?_
  refine z_istore (pc := 9) (i := 5) (ls' := [(5, .int q1.1), (0, .ref 0), (1, .int v1), (2, .int v2), (3, .long v3)]) dX10_put_9 (Nat.le_of_ble_eq_true rfl) rfl ?_
  refine z_iload (pc := 11) (i := 5) (j := 0) dX10_put_11 rfl ?_
  refine z_if_eq (pc := 13) (tgt := 19) dX10_put_13 (by decide) (fun hc => ?_) (fun hc => ?_)
  · rw [if_pos hc] at hf
    refine z_aload_n (pc := 19) (i := 0) (j := 1) dX10_put_19 rfl rfl ?_
    refine z_ogetR (pc := 20) dX10_put_20 lf_RX10_79 sh_0 rfl rfl rfl ?_
    refine z_iload_n (pc := 23) (i := 1) (j := 2) dX10_put_23 rfl rfl ?_
    refine z_iload_n (pc := 24) (i := 2) (j := 3) dX10_put_24 rfl rfl ?_
    refine z_lload_n (pc := 25) (i := 3) (j := 4) dX10_put_25 rfl rfl ?_
    obtain ⟨q2, hq2, hf⟩ := Option.bind_eq_some_iff.mp hf
    refine z_oVv (pc := 26) (as := [.int v1, .int v2, .long v3]) (rest := []) dX10_put_26 lm_RX10_273 mf_X6_enter mi_X6_enter mv_X6_enter rc_37 rfl rfl (Nat.le_of_ble_eq_true rfl) (c_X6_enter e (by omega) v1 v2 v3 q1.2 hq2) ?_
    refine z_iconst (pc := 29) dX10_put_29 ki_1 ?_
    obtain rfl := Option.some.inj hf
    rw [h0 _ hK]
    exact z_iret dX10_put_30 rfl rfl
  · rw [if_neg hc] at hf
    refine z_iload (pc := 16) (i := 5) (j := 0) dX10_put_16 rfl ?_
    obtain rfl := Option.some.inj hf
    rw [h0 _ hK]
    exact z_iret dX10_put_18 rfl rfl
set_option maxHeartbeats 4000000 in
set_option maxRecDepth 100000 in
theorem c_X10_put (d : Nat) (hd : 4 ≤ d) (v1 : Int32) (v2 : Int32) (v3 : Int64) (m : ej_M) {q : (Int32 × ej_M)} (hf : f_X10_put v1 v2 v3 m = some q) : ej_Ct yX10_put cX10_put 6 (some .int) d [.ref 0, .int v1, .int v2, .long v3] (ej_sh, m) ((some (Value.int q.1), (ej_sh, q.2)) : Option Value × ej_H) := by
  obtain ⟨e, rfl⟩ : ∃ e, d = e + 1 := ⟨d - 1, by omega⟩
  exact z_met (by decide +kernel) (Nat.le_of_ble_eq_true rfl) (b_X10_put e (by omega) v1 v2 v3 m (K := fun z => ((some (Value.int q.1), (ej_sh, q.2)) : Option Value × ej_H) = (some (Value.int z.1), (ej_sh, z.2))) hf rfl (fun _ h => h))
def f_X11_whyNoPlace (v1 : Int32) (v2 : Int32) (m : ej_M) : Option (Int32 × ej_M) :=
  (f_X11_isShelf v1 m).bind fun q1 =>
  if q1.1 = 0 then
    some ((-1), q1.2)
  else
    (oj_ld 0 q1.2 66 v1).bind fun w2 =>
    if w2 = (-1) then
      some ((-11), q1.2)
    else
      (oj_ld 0 q1.2 66 v1).bind fun w3 =>
      if w3 < 0 then
        (oj_ld 0 q1.2 67 v1).bind fun w4 =>
        (f_X11_in v2 0 (w4 - 1) q1.2).bind fun q5 =>
        if q5.1 = 0 then
          some ((-13), q5.2)
        else
          some (0, q5.2)
      else
        some ((-12), q1.2)
set_option maxHeartbeats 4000000 in
set_option maxRecDepth 100000 in
theorem b_X11_whyNoPlace (e : Nat) (hd : 1 ≤ e) (v1 : Int32) (v2 : Int32) (m : ej_M) {x : (Int32 × ej_M)} {res : Option Value × ej_H} {K : (Int32 × ej_M) → Prop} (hf : f_X11_whyNoPlace v1 v2 m = some x) (hK : K x) (h0 : ∀ q : (Int32 × ej_M), K q → res = (some (Value.int q.1), (ej_sh, q.2))) : ej_Z cX11_whyNoPlace 3 (some .int) RX11 "whyNoPlace" (e + 1) 0 [(0, .ref 41), (1, .int v1), (2, .int v2)] [] (ej_sh, m) res := by
  unfold f_X11_whyNoPlace at hf
  refine z_iload_n (pc := 0) (i := 1) (j := 1) dX11_whyNoPlace_0 rfl rfl ?_
  obtain ⟨q1, hq1, hf⟩ := Option.bind_eq_some_iff.mp hf
  refine z_oSi (pc := 1) (as := [.int v1]) (rest := []) dX11_whyNoPlace_1 lm_RX11_115 mf_X11_isShelf ms_X11_isShelf rfl rfl (Nat.le_of_ble_eq_true rfl) (c_X11_isShelf e (by omega) v1 m hq1) ?_
  refine z_if_ne (pc := 4) (tgt := 9) dX11_whyNoPlace_4 (by decide) (fun hc => ?_) (fun hc => ?_)
  · rw [if_neg hc] at hf
    refine z_aload_n (pc := 9) (i := 0) (j := 0) dX11_whyNoPlace_9 rfl rfl ?_
    refine z_ogetR (pc := 10) dX11_whyNoPlace_10 lf_RX11_84 sh_41 rfl rfl rfl ?_
    refine z_iload_n (pc := 13) (i := 1) (j := 1) dX11_whyNoPlace_13 rfl rfl ?_
    obtain ⟨w2, hw2, hf⟩ := Option.bind_eq_some_iff.mp hf
    refine z_oiald (pc := 14) dX11_whyNoPlace_14 hw2 ?_
    refine z_iconst (pc := 15) dX11_whyNoPlace_15 ki_n1 ?_
    refine z_icmp_ne (pc := 16) (tgt := 22) dX11_whyNoPlace_16 (by decide) (fun hc => ?_) (fun hc => ?_)
    · rw [if_neg hc] at hf
      refine z_aload_n (pc := 22) (i := 0) (j := 0) dX11_whyNoPlace_22 rfl rfl ?_
      refine z_ogetR (pc := 23) dX11_whyNoPlace_23 lf_RX11_84 sh_41 rfl rfl rfl ?_
      refine z_iload_n (pc := 26) (i := 1) (j := 1) dX11_whyNoPlace_26 rfl rfl ?_
      obtain ⟨w3, hw3, hf⟩ := Option.bind_eq_some_iff.mp hf
      refine z_oiald (pc := 27) dX11_whyNoPlace_27 hw3 ?_
      refine z_if_lt (pc := 28) (tgt := 34) dX11_whyNoPlace_28 (by decide) (fun hc => ?_) (fun hc => ?_)
      · rw [if_pos hc] at hf
        refine z_iload_n (pc := 34) (i := 2) (j := 2) dX11_whyNoPlace_34 rfl rfl ?_
        refine z_iconst (pc := 35) dX11_whyNoPlace_35 ki_0 ?_
        refine z_aload_n (pc := 36) (i := 0) (j := 0) dX11_whyNoPlace_36 rfl rfl ?_
        refine z_ogetR (pc := 37) dX11_whyNoPlace_37 lf_RX11_87 sh_41 rfl rfl rfl ?_
        refine z_iload_n (pc := 40) (i := 1) (j := 1) dX11_whyNoPlace_40 rfl rfl ?_
        obtain ⟨w4, hw4, hf⟩ := Option.bind_eq_some_iff.mp hf
        refine z_oiald (pc := 41) dX11_whyNoPlace_41 hw4 ?_
        refine z_iconst (pc := 42) dX11_whyNoPlace_42 ki_1 ?_
        refine z_isub (pc := 43) dX11_whyNoPlace_43 ?_
        obtain ⟨q5, hq5, hf⟩ := Option.bind_eq_some_iff.mp hf
        refine z_oSi (pc := 44) (as := [.int v2, .int 0, .int (w4 - 1)]) (rest := []) dX11_whyNoPlace_44 lm_RX11_104 mf_X11_in ms_X11_in rfl rfl (Nat.le_of_ble_eq_true rfl) (c_X11_in e (by omega) v2 0 (w4 - 1) q1.2 hq5) ?_
        refine z_if_eq (pc := 47) (tgt := 54) dX11_whyNoPlace_47 (by decide) (fun hc => ?_) (fun hc => ?_)
        · rw [if_pos hc] at hf
          refine z_bipush (pc := 54) dX11_whyNoPlace_54 kb_n13 ?_
          obtain rfl := Option.some.inj hf
          rw [h0 _ hK]
          exact z_iret dX11_whyNoPlace_56 rfl rfl
        · rw [if_neg hc] at hf
          refine z_iconst (pc := 50) dX11_whyNoPlace_50 ki_0 ?_
          refine z_goto (pc := 51) (tgt := 56) dX11_whyNoPlace_51 (by decide) ?_
          obtain rfl := Option.some.inj hf
          rw [h0 _ hK]
          exact z_iret dX11_whyNoPlace_56 rfl rfl
      · rw [if_neg hc] at hf
        refine z_bipush (pc := 31) dX11_whyNoPlace_31 kb_n12 ?_
        obtain rfl := Option.some.inj hf
        rw [h0 _ hK]
        exact z_iret dX11_whyNoPlace_33 rfl rfl
    · rw [if_pos hc] at hf
      refine z_bipush (pc := 19) dX11_whyNoPlace_19 kb_n11 ?_
      obtain rfl := Option.some.inj hf
      rw [h0 _ hK]
      exact z_iret dX11_whyNoPlace_21 rfl rfl
  · rw [if_pos hc] at hf
    refine z_iconst (pc := 7) dX11_whyNoPlace_7 ki_n1 ?_
    obtain rfl := Option.some.inj hf
    rw [h0 _ hK]
    exact z_iret dX11_whyNoPlace_8 rfl rfl
set_option maxHeartbeats 4000000 in
set_option maxRecDepth 100000 in
theorem c_X11_whyNoPlace (d : Nat) (hd : 2 ≤ d) (v1 : Int32) (v2 : Int32) (m : ej_M) {q : (Int32 × ej_M)} (hf : f_X11_whyNoPlace v1 v2 m = some q) : ej_Ct yX11_whyNoPlace cX11_whyNoPlace 3 (some .int) d [.ref 41, .int v1, .int v2] (ej_sh, m) ((some (Value.int q.1), (ej_sh, q.2)) : Option Value × ej_H) := by
  obtain ⟨e, rfl⟩ : ∃ e, d = e + 1 := ⟨d - 1, by omega⟩
  exact z_met (by decide +kernel) (Nat.le_of_ble_eq_true rfl) (b_X11_whyNoPlace e (by omega) v1 v2 m (K := fun z => ((some (Value.int q.1), (ej_sh, q.2)) : Option Value × ej_H) = (some (Value.int z.1), (ej_sh, z.2))) hf rfl (fun _ h => h))
def f_X11_put_B95 (s0 : Int64) (s1 : Int32) (m : ej_M) : Option (Int32 × ej_M) :=
  (oj_sl m 68 s1 s0).bind fun m1 =>
  some (1, m1)
set_option maxHeartbeats 4000000 in
set_option maxRecDepth 100000 in
theorem b_X11_put_B95 (e : Nat) (hd : 2 ≤ e) (s0 : Int64) (s1 : Int32) (m : ej_M) {x : (Int32 × ej_M)} {res : Option Value × ej_H} {K : (Int32 × ej_M) → Prop} (hf : f_X11_put_B95 s0 s1 m = some x) (hK : K x) (h0 : ∀ q : (Int32 × ej_M), K q → res = (some (Value.int q.1), (ej_sh, q.2))) : ej_Z cX11_put 7 (some .int) RX11 "put" (e + 1) 95 [] [.long s0, .int s1, .ref 68] (ej_sh, m) res := by
  unfold f_X11_put_B95 at hf
  obtain ⟨m1, hm1, hf⟩ := Option.bind_eq_some_iff.mp hf
  refine z_olast (pc := 95) dX11_put_95 hm1 ?_
  refine z_iconst (pc := 96) dX11_put_96 ki_1 ?_
  obtain rfl := Option.some.inj hf
  rw [h0 _ hK]
  exact z_iret dX11_put_97 rfl rfl
def f_X11_put (v1 : Int32) (v2 : Int32) (v3 : Int64) (m : ej_M) : Option (Int32 × ej_M) :=
  (f_X11_whyNoPlace v1 v2 m).bind fun q1 =>
  if 0 ≤ q1.1 then
    (oj_ld 0 q1.2 66 v1).bind fun w2 =>
    if ((-2) - w2) = 0 then
      f_X11_put_B95 (Int32.toInt64 ((Int32.toInt8 (Int64.toInt32 v3)).toInt32)) ((60 * v1) + v2) q1.2
    else
      if ((-2) - w2) = 1 then
        f_X11_put_B95 (Int32.toInt64 ((Int32.toInt16 (Int64.toInt32 v3)).toInt32)) ((60 * v1) + v2) q1.2
      else
        if ((-2) - w2) = 2 then
          f_X11_put_B95 (Int32.toInt64 (Int64.toInt32 v3)) ((60 * v1) + v2) q1.2
        else
          if ((-2) - w2) = 3 then
            f_X11_put_B95 v3 ((60 * v1) + v2) q1.2
          else
            if (lg_cmp v3 (0 : Int64)) = 0 then
              f_X11_put_B95 (0 : Int64) ((60 * v1) + v2) q1.2
            else
              f_X11_put_B95 (1 : Int64) ((60 * v1) + v2) q1.2
  else
    some (q1.1, q1.2)
set_option maxHeartbeats 4000000 in
set_option maxRecDepth 100000 in
theorem b_X11_put (e : Nat) (hd : 2 ≤ e) (v1 : Int32) (v2 : Int32) (v3 : Int64) (m : ej_M) {x : (Int32 × ej_M)} {res : Option Value × ej_H} {K : (Int32 × ej_M) → Prop} (hf : f_X11_put v1 v2 v3 m = some x) (hK : K x) (h0 : ∀ q : (Int32 × ej_M), K q → res = (some (Value.int q.1), (ej_sh, q.2))) : ej_Z cX11_put 7 (some .int) RX11 "put" (e + 1) 0 [(0, .ref 41), (1, .int v1), (2, .int v2), (3, .long v3)] [] (ej_sh, m) res := by
  unfold f_X11_put at hf
  refine z_aload_n (pc := 0) (i := 0) (j := 0) dX11_put_0 rfl rfl ?_
  refine z_iload_n (pc := 1) (i := 1) (j := 1) dX11_put_1 rfl rfl ?_
  refine z_iload_n (pc := 2) (i := 2) (j := 2) dX11_put_2 rfl rfl ?_
  obtain ⟨q1, hq1, hf⟩ := Option.bind_eq_some_iff.mp hf
  refine z_oVi (pc := 3) (as := [.int v1, .int v2]) (rest := []) dX11_put_3 lm_RX11_386 mf_X11_whyNoPlace mi_X11_whyNoPlace mv_X11_whyNoPlace rc_41 rfl rfl (Nat.le_of_ble_eq_true rfl) (c_X11_whyNoPlace e (by omega) v1 v2 m hq1) ?_
  refine z_istore (pc := 6) (i := 5) (ls' := [(5, .int q1.1), (0, .ref 41), (1, .int v1), (2, .int v2), (3, .long v3)]) dX11_put_6 (Nat.le_of_ble_eq_true rfl) rfl ?_
  refine z_iload (pc := 8) (i := 5) (j := 0) dX11_put_8 rfl ?_
  refine z_if_ge (pc := 10) (tgt := 16) dX11_put_10 (by decide) (fun hc => ?_) (fun hc => ?_)
  · rw [if_pos hc] at hf
    refine z_bipush (pc := 16) dX11_put_16 kb_n2 ?_
    refine z_aload_n (pc := 18) (i := 0) (j := 1) dX11_put_18 rfl rfl ?_
    refine z_ogetR (pc := 19) dX11_put_19 lf_RX11_84 sh_41 rfl rfl rfl ?_
    refine z_iload_n (pc := 22) (i := 1) (j := 2) dX11_put_22 rfl rfl ?_
    obtain ⟨w2, hw2, hf⟩ := Option.bind_eq_some_iff.mp hf
    refine z_oiald (pc := 23) dX11_put_23 hw2 ?_
    refine z_isub (pc := 24) dX11_put_24 ?_
    refine z_istore (pc := 25) (i := 6) (ls' := [(6, .int ((-2) - w2)), (5, .int q1.1), (0, .ref 41), (1, .int v1), (2, .int v2), (3, .long v3)]) dX11_put_25 (Nat.le_of_ble_eq_true rfl) rfl ?_
    refine z_aload_n (pc := 27) (i := 0) (j := 2) dX11_put_27 rfl rfl ?_
    refine z_ogetR (pc := 28) dX11_put_28 lf_RX11_90 sh_41 rfl rfl rfl ?_
    refine z_bipush (pc := 31) dX11_put_31 kb_60 ?_
    refine z_iload_n (pc := 33) (i := 1) (j := 3) dX11_put_33 rfl rfl ?_
    refine z_imul (pc := 34) dX11_put_34 ?_
    refine z_iload_n (pc := 35) (i := 2) (j := 4) dX11_put_35 rfl rfl ?_
    refine z_iadd (pc := 36) dX11_put_36 ?_
    refine z_iload (pc := 37) (i := 6) (j := 0) dX11_put_37 rfl ?_
    refine z_if_ne (pc := 39) (tgt := 49) dX11_put_39 (by decide) (fun hc => ?_) (fun hc => ?_)
    · rw [if_neg hc] at hf
      refine z_iload (pc := 49) (i := 6) (j := 0) dX11_put_49 rfl ?_
      refine z_iconst (pc := 51) dX11_put_51 ki_1 ?_
      refine z_icmp_ne (pc := 52) (tgt := 62) dX11_put_52 (by decide) (fun hc => ?_) (fun hc => ?_)
      · rw [if_neg hc] at hf
        refine z_iload (pc := 62) (i := 6) (j := 0) dX11_put_62 rfl ?_
        refine z_iconst (pc := 64) dX11_put_64 ki_2 ?_
        refine z_icmp_ne (pc := 65) (tgt := 74) dX11_put_65 (by decide) (fun hc => ?_) (fun hc => ?_)
        · rw [if_neg hc] at hf
          refine z_iload (pc := 74) (i := 6) (j := 0) dX11_put_74 rfl ?_
          refine z_iconst (pc := 76) dX11_put_76 ki_3 ?_
          refine z_icmp_ne (pc := 77) (tgt := 84) dX11_put_77 (by decide) (fun hc => ?_) (fun hc => ?_)
          · rw [if_neg hc] at hf
            refine z_lload_n (pc := 84) (i := 3) (j := 5) dX11_put_84 rfl rfl ?_
            refine z_lconst (pc := 85) dX11_put_85 kl_0 ?_
            refine z_lcmp (pc := 86) dX11_put_86 ?_
            refine z_if_eq (pc := 87) (tgt := 94) dX11_put_87 (by decide) (fun hc => ?_) (fun hc => ?_)
            · rw [if_pos hc] at hf
              refine z_lconst (pc := 94) dX11_put_94 kl_0 ?_
              exact z_pick [] rfl (b_X11_put_B95 e hd (0 : Int64) ((60 * v1) + v2) q1.2 (K := K) hf hK  h0)
            · rw [if_neg hc] at hf
              refine z_lconst (pc := 90) dX11_put_90 kl_1 ?_
              refine z_goto (pc := 91) (tgt := 95) dX11_put_91 (by decide) ?_
              exact z_pick [] rfl (b_X11_put_B95 e hd (1 : Int64) ((60 * v1) + v2) q1.2 (K := K) hf hK  h0)
          · rw [if_pos hc] at hf
            refine z_lload_n (pc := 80) (i := 3) (j := 5) dX11_put_80 rfl rfl ?_
            refine z_goto (pc := 81) (tgt := 95) dX11_put_81 (by decide) ?_
            exact z_pick [] rfl (b_X11_put_B95 e hd v3 ((60 * v1) + v2) q1.2 (K := K) hf hK  h0)
        · rw [if_pos hc] at hf
          refine z_lload_n (pc := 68) (i := 3) (j := 5) dX11_put_68 rfl rfl ?_
          refine z_l2i (pc := 69) dX11_put_69 ?_
          refine z_i2l (pc := 70) dX11_put_70 ?_
          refine z_goto (pc := 71) (tgt := 95) dX11_put_71 (by decide) ?_
          exact z_pick [] rfl (b_X11_put_B95 e hd (Int32.toInt64 (Int64.toInt32 v3)) ((60 * v1) + v2) q1.2 (K := K) hf hK  h0)
      · rw [if_pos hc] at hf
        refine z_lload_n (pc := 55) (i := 3) (j := 5) dX11_put_55 rfl rfl ?_
        refine z_l2i (pc := 56) dX11_put_56 ?_
        refine z_i2s (pc := 57) dX11_put_57 ?_
        refine z_i2l (pc := 58) dX11_put_58 ?_
        refine z_goto (pc := 59) (tgt := 95) dX11_put_59 (by decide) ?_
        exact z_pick [] rfl (b_X11_put_B95 e hd (Int32.toInt64 ((Int32.toInt16 (Int64.toInt32 v3)).toInt32)) ((60 * v1) + v2) q1.2 (K := K) hf hK  h0)
    · rw [if_pos hc] at hf
      refine z_lload_n (pc := 42) (i := 3) (j := 5) dX11_put_42 rfl rfl ?_
      refine z_l2i (pc := 43) dX11_put_43 ?_
      refine z_i2b (pc := 44) dX11_put_44 ?_
      refine z_i2l (pc := 45) dX11_put_45 ?_
      refine z_goto (pc := 46) (tgt := 95) dX11_put_46 (by decide) ?_
      exact z_pick [] rfl (b_X11_put_B95 e hd (Int32.toInt64 ((Int32.toInt8 (Int64.toInt32 v3)).toInt32)) ((60 * v1) + v2) q1.2 (K := K) hf hK  h0)
  · rw [if_neg hc] at hf
    refine z_iload (pc := 13) (i := 5) (j := 0) dX11_put_13 rfl ?_
    obtain rfl := Option.some.inj hf
    rw [h0 _ hK]
    exact z_iret dX11_put_15 rfl rfl
set_option maxHeartbeats 4000000 in
set_option maxRecDepth 100000 in
theorem c_X11_put (d : Nat) (hd : 3 ≤ d) (v1 : Int32) (v2 : Int32) (v3 : Int64) (m : ej_M) {q : (Int32 × ej_M)} (hf : f_X11_put v1 v2 v3 m = some q) : ej_Ct yX11_put cX11_put 7 (some .int) d [.ref 41, .int v1, .int v2, .long v3] (ej_sh, m) ((some (Value.int q.1), (ej_sh, q.2)) : Option Value × ej_H) := by
  obtain ⟨e, rfl⟩ : ∃ e, d = e + 1 := ⟨d - 1, by omega⟩
  exact z_met (by decide +kernel) (Nat.le_of_ble_eq_true rfl) (b_X11_put e (by omega) v1 v2 v3 m (K := fun z => ((some (Value.int q.1), (ej_sh, q.2)) : Option Value × ej_H) = (some (Value.int z.1), (ej_sh, z.2))) hf rfl (fun _ h => h))
def f_X10_element (v1 : Int32) (v2 : Int32) (m : ej_M) : Option (Int64 × ej_M) :=
  (f_X6_refusesElement v1 v2 m).bind fun q1 =>
  if q1.1 = 0 then
    (f_X6_valueAt v1 v2 q1.2).bind fun q2 =>
    some (q2.1, q2.2)
  else
    some ((-9223372036854775808 : Int64), q1.2)
set_option maxHeartbeats 4000000 in
set_option maxRecDepth 100000 in
theorem b_X10_element (e : Nat) (hd : 3 ≤ e) (v1 : Int32) (v2 : Int32) (m : ej_M) {x : (Int64 × ej_M)} {res : Option Value × ej_H} {K : (Int64 × ej_M) → Prop} (hf : f_X10_element v1 v2 m = some x) (hK : K x) (h0 : ∀ q : (Int64 × ej_M), K q → res = (some (Value.long q.1), (ej_sh, q.2))) : ej_Z cX10_element 3 (some .long) RX10 "element" (e + 1) 0 [(0, .ref 0), (1, .int v1), (2, .int v2)] [] (ej_sh, m) res := by
  unfold f_X10_element at hf
  refine z_aload_n (pc := 0) (i := 0) (j := 0) dX10_element_0 rfl rfl ?_
  refine z_ogetR (pc := 1) dX10_element_1 lf_RX10_79 sh_0 rfl rfl rfl ?_
  refine z_iload_n (pc := 4) (i := 1) (j := 1) dX10_element_4 rfl rfl ?_
  refine z_iload_n (pc := 5) (i := 2) (j := 2) dX10_element_5 rfl rfl ?_
  obtain ⟨q1, hq1, hf⟩ := Option.bind_eq_some_iff.mp hf
  refine z_oVi (pc := 6) (as := [.int v1, .int v2]) (rest := []) dX10_element_6 lm_RX10_270 mf_X6_refusesElement mi_X6_refusesElement mv_X6_refusesElement rc_37 rfl rfl (Nat.le_of_ble_eq_true rfl) (c_X6_refusesElement e (by omega) v1 v2 m hq1) ?_
  refine z_if_ne (pc := 9) (tgt := 24) dX10_element_9 (by decide) (fun hc => ?_) (fun hc => ?_)
  · rw [if_neg hc] at hf
    refine z_ldc2 (pc := 24) dX10_element_24 lc_RX10_279 ?_
    obtain rfl := Option.some.inj hf
    rw [h0 _ hK]
    exact z_lret dX10_element_27 rfl
  · rw [if_pos hc] at hf
    refine z_aload_n (pc := 12) (i := 0) (j := 0) dX10_element_12 rfl rfl ?_
    refine z_ogetR (pc := 13) dX10_element_13 lf_RX10_79 sh_0 rfl rfl rfl ?_
    refine z_iload_n (pc := 16) (i := 1) (j := 1) dX10_element_16 rfl rfl ?_
    refine z_iload_n (pc := 17) (i := 2) (j := 2) dX10_element_17 rfl rfl ?_
    obtain ⟨q2, hq2, hf⟩ := Option.bind_eq_some_iff.mp hf
    refine z_oVl (pc := 18) (as := [.int v1, .int v2]) (rest := []) dX10_element_18 lm_RX10_97 mf_X6_valueAt mi_X6_valueAt mv_X6_valueAt rc_37 rfl rfl (Nat.le_of_ble_eq_true rfl) (c_X6_valueAt e (by omega) v1 v2 q1.2 hq2) ?_
    refine z_goto (pc := 21) (tgt := 27) dX10_element_21 (by decide) ?_
    obtain rfl := Option.some.inj hf
    rw [h0 _ hK]
    exact z_lret dX10_element_27 rfl
set_option maxHeartbeats 4000000 in
set_option maxRecDepth 100000 in
theorem c_X10_element (d : Nat) (hd : 4 ≤ d) (v1 : Int32) (v2 : Int32) (m : ej_M) {q : (Int64 × ej_M)} (hf : f_X10_element v1 v2 m = some q) : ej_Ct yX10_element cX10_element 3 (some .long) d [.ref 0, .int v1, .int v2] (ej_sh, m) ((some (Value.long q.1), (ej_sh, q.2)) : Option Value × ej_H) := by
  obtain ⟨e, rfl⟩ : ∃ e, d = e + 1 := ⟨d - 1, by omega⟩
  exact z_met (by decide +kernel) (Nat.le_of_ble_eq_true rfl) (b_X10_element e (by omega) v1 v2 m (K := fun z => ((some (Value.long q.1), (ej_sh, q.2)) : Option Value × ej_H) = (some (Value.long z.1), (ej_sh, z.2))) hf rfl (fun _ h => h))
def f_X11_element (v1 : Int32) (v2 : Int32) (m : ej_M) : Option (Int64 × ej_M) :=
  (f_X11_whyNoPlace v1 v2 m).bind fun q1 =>
  if 0 ≤ q1.1 then
    (oj_ll q1.2 68 ((60 * v1) + v2)).bind fun w2 =>
    some (w2, q1.2)
  else
    some ((-9223372036854775808 : Int64), q1.2)
set_option maxHeartbeats 4000000 in
set_option maxRecDepth 100000 in
theorem b_X11_element (e : Nat) (hd : 2 ≤ e) (v1 : Int32) (v2 : Int32) (m : ej_M) {x : (Int64 × ej_M)} {res : Option Value × ej_H} {K : (Int64 × ej_M) → Prop} (hf : f_X11_element v1 v2 m = some x) (hK : K x) (h0 : ∀ q : (Int64 × ej_M), K q → res = (some (Value.long q.1), (ej_sh, q.2))) : ej_Z cX11_element 3 (some .long) RX11 "element" (e + 1) 0 [(0, .ref 41), (1, .int v1), (2, .int v2)] [] (ej_sh, m) res := by
  unfold f_X11_element at hf
  refine z_aload_n (pc := 0) (i := 0) (j := 0) dX11_element_0 rfl rfl ?_
  refine z_iload_n (pc := 1) (i := 1) (j := 1) dX11_element_1 rfl rfl ?_
  refine z_iload_n (pc := 2) (i := 2) (j := 2) dX11_element_2 rfl rfl ?_
  obtain ⟨q1, hq1, hf⟩ := Option.bind_eq_some_iff.mp hf
  refine z_oVi (pc := 3) (as := [.int v1, .int v2]) (rest := []) dX11_element_3 lm_RX11_386 mf_X11_whyNoPlace mi_X11_whyNoPlace mv_X11_whyNoPlace rc_41 rfl rfl (Nat.le_of_ble_eq_true rfl) (c_X11_whyNoPlace e (by omega) v1 v2 m hq1) ?_
  refine z_if_ge (pc := 6) (tgt := 15) dX11_element_6 (by decide) (fun hc => ?_) (fun hc => ?_)
  · rw [if_pos hc] at hf
    refine z_aload_n (pc := 15) (i := 0) (j := 0) dX11_element_15 rfl rfl ?_
    refine z_ogetR (pc := 16) dX11_element_16 lf_RX11_90 sh_41 rfl rfl rfl ?_
    refine z_bipush (pc := 19) dX11_element_19 kb_60 ?_
    refine z_iload_n (pc := 21) (i := 1) (j := 1) dX11_element_21 rfl rfl ?_
    refine z_imul (pc := 22) dX11_element_22 ?_
    refine z_iload_n (pc := 23) (i := 2) (j := 2) dX11_element_23 rfl rfl ?_
    refine z_iadd (pc := 24) dX11_element_24 ?_
    obtain ⟨w2, hw2, hf⟩ := Option.bind_eq_some_iff.mp hf
    refine z_olald (pc := 25) dX11_element_25 hw2 ?_
    obtain rfl := Option.some.inj hf
    rw [h0 _ hK]
    exact z_lret dX11_element_26 rfl
  · rw [if_neg hc] at hf
    refine z_ldc2 (pc := 9) dX11_element_9 lc_RX11_391 ?_
    refine z_goto (pc := 12) (tgt := 26) dX11_element_12 (by decide) ?_
    obtain rfl := Option.some.inj hf
    rw [h0 _ hK]
    exact z_lret dX11_element_26 rfl
set_option maxHeartbeats 4000000 in
set_option maxRecDepth 100000 in
theorem c_X11_element (d : Nat) (hd : 3 ≤ d) (v1 : Int32) (v2 : Int32) (m : ej_M) {q : (Int64 × ej_M)} (hf : f_X11_element v1 v2 m = some q) : ej_Ct yX11_element cX11_element 3 (some .long) d [.ref 41, .int v1, .int v2] (ej_sh, m) ((some (Value.long q.1), (ej_sh, q.2)) : Option Value × ej_H) := by
  obtain ⟨e, rfl⟩ : ∃ e, d = e + 1 := ⟨d - 1, by omega⟩
  exact z_met (by decide +kernel) (Nat.le_of_ble_eq_true rfl) (b_X11_element e (by omega) v1 v2 m (K := fun z => ((some (Value.long q.1), (ej_sh, q.2)) : Option Value × ej_H) = (some (Value.long z.1), (ej_sh, z.2))) hf rfl (fun _ h => h))
