def Q_X0_own (Rf : (Int32 → Int32 → Int32 → ej_M → Option (Int32 × ej_M)) × (Int32 → Int32 → Int32 → Int32 → ej_M → Option (Int32 × ej_M)) × (Int32 → Int32 → Int32 → ej_M → Option (Int32 × ej_M))) (e : Nat) : Prop := (∀ (v1 : Int32) (v2 : Int32) (v3 : Int32) (m : ej_M) (q : (Int32 × ej_M)), Rf.1 v1 v2 v3 m = some q → ej_Ct yX0_own cX0_own 4 (some .int) e [.ref 34, .int v1, .int v2, .int v3] (ej_sh, m) (some (Value.int q.1), (ej_sh, q.2))) ∧ (∀ (v1 : Int32) (v2 : Int32) (v3 : Int32) (v4 : Int32) (m : ej_M) (q : (Int32 × ej_M)), Rf.2.1 v1 v2 v3 v4 m = some q → ej_Ct yX0_run cX0_run 6 (some .int) e [.ref 34, .int v1, .int v2, .int v3, .int v4] (ej_sh, m) (some (Value.int q.1), (ej_sh, q.2))) ∧ (∀ (v1 : Int32) (v2 : Int32) (v3 : Int32) (m : ej_M) (q : (Int32 × ej_M)), Rf.2.2 v1 v2 v3 m = some q → ej_Ct yX0_runUnder cX0_runUnder 6 (some .int) e [.ref 34, .int v1, .int v2, .int v3] (ej_sh, m) (some (Value.int q.1), (ej_sh, q.2)))
def f_X0_own_e (Rf : ((Int32 → Int32 → Int32 → ej_M → Option (Int32 × ej_M)) × (Int32 → Int32 → Int32 → Int32 → ej_M → Option (Int32 × ej_M)) × (Int32 → Int32 → Int32 → ej_M → Option (Int32 × ej_M)))) (v1 : Int32) (v2 : Int32) (v3 : Int32) (m : ej_M) : Option (Int32 × ej_M) :=
  (f_X0_kindOf (m.1 34 4) m).bind fun q1 =>
  (Rf.2.1 q1.1 v1 v2 (v3 + 1) q1.2).bind fun q2 =>
  some (q2.1, q2.2)
set_option maxHeartbeats 4000000 in
set_option maxRecDepth 100000 in
theorem b_X0_own_e (e : Nat) (hd : 1 ≤ e) (Rf : ((Int32 → Int32 → Int32 → ej_M → Option (Int32 × ej_M)) × (Int32 → Int32 → Int32 → Int32 → ej_M → Option (Int32 × ej_M)) × (Int32 → Int32 → Int32 → ej_M → Option (Int32 × ej_M)))) (hR : Q_X0_own Rf e) (v1 : Int32) (v2 : Int32) (v3 : Int32) (m : ej_M) {x : (Int32 × ej_M)} {res : Option Value × ej_H} {K : (Int32 × ej_M) → Prop} (hf : f_X0_own_e Rf v1 v2 v3 m = some x) (hK : K x) (h0 : ∀ q : (Int32 × ej_M), K q → res = (some (Value.int q.1), (ej_sh, q.2))) : ej_Z cX0_own 4 (some .int) RX0 "own" (e + 1) 0 [(0, .ref 34), (1, .int v1), (2, .int v2), (3, .int v3)] [] (ej_sh, m) res := by
  unfold f_X0_own_e at hf
  refine z_aload_n (pc := 0) (i := 0) (j := 0) dX0_own_0 rfl rfl ?_
  refine z_aload_n (pc := 1) (i := 0) (j := 0) dX0_own_1 rfl rfl ?_
  refine z_aload_n (pc := 2) (i := 0) (j := 0) dX0_own_2 rfl rfl ?_
  refine z_ogetI (pc := 3) dX0_own_3 lf_RX0_40 sh_34 rfl rfl ?_
  obtain ⟨q1, hq1, hf⟩ := Option.bind_eq_some_iff.mp hf
  refine z_oVi (pc := 6) (as := [.int (m.1 34 4)]) (rest := [.ref 34]) dX0_own_6 lm_RX0_47 mf_X0_kindOf mi_X0_kindOf mv_X0_kindOf rc_34 rfl rfl (Nat.le_of_ble_eq_true rfl) (c_X0_kindOf e (by omega) (m.1 34 4) m hq1) ?_
  refine z_iload_n (pc := 9) (i := 1) (j := 1) dX0_own_9 rfl rfl ?_
  refine z_iload_n (pc := 10) (i := 2) (j := 2) dX0_own_10 rfl rfl ?_
  refine z_iload_n (pc := 11) (i := 3) (j := 3) dX0_own_11 rfl rfl ?_
  refine z_iconst (pc := 12) dX0_own_12 ki_1 ?_
  refine z_iadd (pc := 13) dX0_own_13 ?_
  obtain ⟨q2, hq2, hf⟩ := Option.bind_eq_some_iff.mp hf
  refine z_oVi (pc := 14) (as := [.int q1.1, .int v1, .int v2, .int (v3 + 1)]) (rest := []) dX0_own_14 lm_RX0_51 mf_X0_run mi_X0_run mv_X0_run rc_34 rfl rfl (Nat.le_of_ble_eq_true rfl) (hR.2.1 _ _ _ _ _ _ hq2) ?_
  obtain rfl := Option.some.inj hf
  rw [h0 _ hK]
  exact z_iret dX0_own_17 rfl rfl
def f_X0_run_e (Rf : ((Int32 → Int32 → Int32 → ej_M → Option (Int32 × ej_M)) × (Int32 → Int32 → Int32 → Int32 → ej_M → Option (Int32 × ej_M)) × (Int32 → Int32 → Int32 → ej_M → Option (Int32 × ej_M)))) (v1 : Int32) (v2 : Int32) (v3 : Int32) (v4 : Int32) (m : ej_M) : Option (Int32 × ej_M) :=
  (f_X0_numberOf v1 v2 m).bind fun q1 =>
  if q1.1 = 0 then
    some (0, q1.2)
  else
    if v4 ≤ 40 then
      (f_X10_lay 36 (q1.2.1 34 3) q1.1 q1.2).bind fun q2 =>
      (oj_pf q2.2 34 3 ((q2.2.1 34 3) + 1)).bind fun m3 =>
      if q1.1 = 1 then
        some ((v3 + (m3.1 34 4)), m3)
      else
        if q1.1 = 2 then
          (Rf.1 1 v3 v4 m3).bind fun q4 =>
          (Rf.1 2 1 v4 q4.2).bind fun q5 =>
          some ((q4.1 - q5.1), q5.2)
        else
          if q1.1 = 10 then
            (Rf.1 0 v3 v4 m3).bind fun q6 =>
            some ((q6.1 * 2), q6.2)
          else
            if q1.1 = 11 then
              some ((v3 ^^^ (m3.1 34 4)), m3)
            else
              (Rf.2.2 q1.1 v3 v4 m3).bind fun q7 =>
              some (q7.1, q7.2)
    else
      some (0, q1.2)
set_option maxHeartbeats 4000000 in
set_option maxRecDepth 100000 in
theorem b_X0_run_e (e : Nat) (hd : 1 ≤ e) (Rf : ((Int32 → Int32 → Int32 → ej_M → Option (Int32 × ej_M)) × (Int32 → Int32 → Int32 → Int32 → ej_M → Option (Int32 × ej_M)) × (Int32 → Int32 → Int32 → ej_M → Option (Int32 × ej_M)))) (hR : Q_X0_own Rf e) (v1 : Int32) (v2 : Int32) (v3 : Int32) (v4 : Int32) (m : ej_M) {x : (Int32 × ej_M)} {res : Option Value × ej_H} {K : (Int32 × ej_M) → Prop} (hf : f_X0_run_e Rf v1 v2 v3 v4 m = some x) (hK : K x) (h0 : ∀ q : (Int32 × ej_M), K q → res = (some (Value.int q.1), (ej_sh, q.2))) : ej_Z cX0_run 6 (some .int) RX0 "run" (e + 1) 0 [(0, .ref 34), (1, .int v1), (2, .int v2), (3, .int v3), (4, .int v4)] [] (ej_sh, m) res := by
  unfold f_X0_run_e at hf
  refine z_aload_n (pc := 0) (i := 0) (j := 0) dX0_run_0 rfl rfl ?_
  refine z_iload_n (pc := 1) (i := 1) (j := 1) dX0_run_1 rfl rfl ?_
  refine z_iload_n (pc := 2) (i := 2) (j := 2) dX0_run_2 rfl rfl ?_
  obtain ⟨q1, hq1, hf⟩ := Option.bind_eq_some_iff.mp hf
  refine z_oVi (pc := 3) (as := [.int v1, .int v2]) (rest := []) dX0_run_3 lm_RX0_58 mf_X0_numberOf mi_X0_numberOf mv_X0_numberOf rc_34 rfl rfl (Nat.le_of_ble_eq_true rfl) (c_X0_numberOf e (by omega) v1 v2 m hq1) ?_
  refine z_istore (pc := 6) (i := 5) (ls' := [(5, .int q1.1), (0, .ref 34), (1, .int v1), (2, .int v2), (3, .int v3), (4, .int v4)]) dX0_run_6 (Nat.le_of_ble_eq_true rfl) rfl ?_
  refine z_iload (pc := 8) (i := 5) (j := 0) dX0_run_8 rfl ?_
  refine z_if_eq (pc := 10) (tgt := 20) dX0_run_10 (by decide) (fun hc => ?_) (fun hc => ?_)
  · rw [if_pos hc] at hf
    refine z_iconst (pc := 20) dX0_run_20 ki_0 ?_
    obtain rfl := Option.some.inj hf
    rw [h0 _ hK]
    exact z_iret dX0_run_21 rfl rfl
  · rw [if_neg hc] at hf
    refine z_iload (pc := 13) (i := 4) (j := 5) dX0_run_13 rfl ?_
    refine z_bipush (pc := 15) dX0_run_15 kb_40 ?_
    refine z_icmp_le (pc := 17) (tgt := 22) dX0_run_17 (by decide) (fun hc => ?_) (fun hc => ?_)
    · rw [if_pos hc] at hf
      refine z_aload_n (pc := 22) (i := 0) (j := 1) dX0_run_22 rfl rfl ?_
      refine z_ogetR (pc := 23) dX0_run_23 lf_RX0_15 sh_34 rfl rfl rfl ?_
      refine z_aload_n (pc := 26) (i := 0) (j := 1) dX0_run_26 rfl rfl ?_
      refine z_ogetI (pc := 27) dX0_run_27 lf_RX0_37 sh_34 rfl rfl ?_
      refine z_iload (pc := 30) (i := 5) (j := 0) dX0_run_30 rfl ?_
      obtain ⟨q2, hq2, hf⟩ := Option.bind_eq_some_iff.mp hf
      refine z_oSv (pc := 32) (as := [.ref 36, .int (q1.2.1 34 3), .int q1.1]) (rest := []) dX0_run_32 lm_RX0_22 mf_X10_lay ms_X10_lay rfl rfl (Nat.le_of_ble_eq_true rfl) (c_X10_lay e (by omega) 36 (q1.2.1 34 3) q1.1 q1.2 hq2) ?_
      refine z_aload_n (pc := 35) (i := 0) (j := 1) dX0_run_35 rfl rfl ?_
      refine z_dup (pc := 36) dX0_run_36 rfl ?_
      refine z_ogetI (pc := 37) dX0_run_37 lf_RX0_37 sh_34 rfl rfl ?_
      refine z_iconst (pc := 40) dX0_run_40 ki_1 ?_
      refine z_iadd (pc := 41) dX0_run_41 ?_
      obtain ⟨m3, hm3, hf⟩ := Option.bind_eq_some_iff.mp hf
      refine z_oputI (pc := 42) dX0_run_42 lf_RX0_37 sh_34 rfl hm3 ?_
      refine z_iload (pc := 45) (i := 5) (j := 0) dX0_run_45 rfl ?_
      by_cases hs1 : q1.1 = 1
      · rw [if_pos hs1] at hf
        refine z_lookup (pc := 47) (off := 41) (tgt := 88) dX0_run_47 (by decide) (by rw [hs1]; decide) (by decide) ?_
        refine z_iload_n (pc := 88) (i := 3) (j := 4) dX0_run_88 rfl rfl ?_
        refine z_aload_n (pc := 89) (i := 0) (j := 1) dX0_run_89 rfl rfl ?_
        refine z_ogetI (pc := 90) dX0_run_90 lf_RX0_40 sh_34 rfl rfl ?_
        refine z_iadd (pc := 93) dX0_run_93 ?_
        obtain rfl := Option.some.inj hf
        rw [h0 _ hK]
        exact z_iret dX0_run_94 rfl rfl
      · rw [if_neg hs1] at hf
        by_cases hs2 : q1.1 = 2
        · rw [if_pos hs2] at hf
          refine z_lookup (pc := 47) (off := 48) (tgt := 95) dX0_run_47 (by decide) (by rw [hs2]; decide) (by decide) ?_
          refine z_aload_n (pc := 95) (i := 0) (j := 1) dX0_run_95 rfl rfl ?_
          refine z_iconst (pc := 96) dX0_run_96 ki_1 ?_
          refine z_iload_n (pc := 97) (i := 3) (j := 4) dX0_run_97 rfl rfl ?_
          refine z_iload (pc := 98) (i := 4) (j := 5) dX0_run_98 rfl ?_
          obtain ⟨q4, hq4, hf⟩ := Option.bind_eq_some_iff.mp hf
          refine z_oVi (pc := 100) (as := [.int 1, .int v3, .int v4]) (rest := []) dX0_run_100 lm_RX0_43 mf_X0_own mi_X0_own mv_X0_own rc_34 rfl rfl (Nat.le_of_ble_eq_true rfl) (hR.1 _ _ _ _ _ hq4) ?_
          refine z_aload_n (pc := 103) (i := 0) (j := 1) dX0_run_103 rfl rfl ?_
          refine z_iconst (pc := 104) dX0_run_104 ki_2 ?_
          refine z_iconst (pc := 105) dX0_run_105 ki_1 ?_
          refine z_iload (pc := 106) (i := 4) (j := 5) dX0_run_106 rfl ?_
          obtain ⟨q5, hq5, hf⟩ := Option.bind_eq_some_iff.mp hf
          refine z_oVi (pc := 108) (as := [.int 2, .int 1, .int v4]) (rest := [.int q4.1]) dX0_run_108 lm_RX0_43 mf_X0_own mi_X0_own mv_X0_own rc_34 rfl rfl (Nat.le_of_ble_eq_true rfl) (hR.1 _ _ _ _ _ hq5) ?_
          refine z_isub (pc := 111) dX0_run_111 ?_
          obtain rfl := Option.some.inj hf
          rw [h0 _ hK]
          exact z_iret dX0_run_112 rfl rfl
        · rw [if_neg hs2] at hf
          by_cases hs10 : q1.1 = 10
          · rw [if_pos hs10] at hf
            refine z_lookup (pc := 47) (off := 66) (tgt := 113) dX0_run_47 (by decide) (by rw [hs10]; decide) (by decide) ?_
            refine z_aload_n (pc := 113) (i := 0) (j := 1) dX0_run_113 rfl rfl ?_
            refine z_iconst (pc := 114) dX0_run_114 ki_0 ?_
            refine z_iload_n (pc := 115) (i := 3) (j := 4) dX0_run_115 rfl rfl ?_
            refine z_iload (pc := 116) (i := 4) (j := 5) dX0_run_116 rfl ?_
            obtain ⟨q6, hq6, hf⟩ := Option.bind_eq_some_iff.mp hf
            refine z_oVi (pc := 118) (as := [.int 0, .int v3, .int v4]) (rest := []) dX0_run_118 lm_RX0_43 mf_X0_own mi_X0_own mv_X0_own rc_34 rfl rfl (Nat.le_of_ble_eq_true rfl) (hR.1 _ _ _ _ _ hq6) ?_
            refine z_iconst (pc := 121) dX0_run_121 ki_2 ?_
            refine z_imul (pc := 122) dX0_run_122 ?_
            obtain rfl := Option.some.inj hf
            rw [h0 _ hK]
            exact z_iret dX0_run_123 rfl rfl
          · rw [if_neg hs10] at hf
            by_cases hs11 : q1.1 = 11
            · rw [if_pos hs11] at hf
              refine z_lookup (pc := 47) (off := 77) (tgt := 124) dX0_run_47 (by decide) (by rw [hs11]; decide) (by decide) ?_
              refine z_iload_n (pc := 124) (i := 3) (j := 4) dX0_run_124 rfl rfl ?_
              refine z_aload_n (pc := 125) (i := 0) (j := 1) dX0_run_125 rfl rfl ?_
              refine z_ogetI (pc := 126) dX0_run_126 lf_RX0_40 sh_34 rfl rfl ?_
              refine z_ixor (pc := 129) dX0_run_129 ?_
              obtain rfl := Option.some.inj hf
              rw [h0 _ hK]
              exact z_iret dX0_run_130 rfl rfl
            · rw [if_neg hs11] at hf
              refine z_lookup (pc := 47) (off := 84) (tgt := 131) dX0_run_47 (by decide) ((lv_osw hs1 (show (1 : Int32).toInt = 1 by decide)).trans ((lv_osw hs2 (show (2 : Int32).toInt = 2 by decide)).trans ((lv_osw hs10 (show (10 : Int32).toInt = 10 by decide)).trans ((lv_osw hs11 (show (11 : Int32).toInt = 11 by decide)).trans (rfl))))) (by decide) ?_
              refine z_aload_n (pc := 131) (i := 0) (j := 1) dX0_run_131 rfl rfl ?_
              refine z_iload (pc := 132) (i := 5) (j := 0) dX0_run_132 rfl ?_
              refine z_iload_n (pc := 134) (i := 3) (j := 4) dX0_run_134 rfl rfl ?_
              refine z_iload (pc := 135) (i := 4) (j := 5) dX0_run_135 rfl ?_
              obtain ⟨q7, hq7, hf⟩ := Option.bind_eq_some_iff.mp hf
              refine z_oVi (pc := 137) (as := [.int q1.1, .int v3, .int v4]) (rest := []) dX0_run_137 lm_RX0_62 mf_X0_runUnder mi_X0_runUnder mv_X0_runUnder rc_34 rfl rfl (Nat.le_of_ble_eq_true rfl) (hR.2.2 _ _ _ _ _ hq7) ?_
              obtain rfl := Option.some.inj hf
              rw [h0 _ hK]
              exact z_iret dX0_run_140 rfl rfl
    · rw [if_neg hc] at hf
      refine z_iconst (pc := 20) dX0_run_20 ki_0 ?_
      obtain rfl := Option.some.inj hf
      rw [h0 _ hK]
      exact z_iret dX0_run_21 rfl rfl
def f_X0_runUnder_e (Rf : ((Int32 → Int32 → Int32 → ej_M → Option (Int32 × ej_M)) × (Int32 → Int32 → Int32 → Int32 → ej_M → Option (Int32 × ej_M)) × (Int32 → Int32 → Int32 → ej_M → Option (Int32 × ej_M)))) (v1 : Int32) (v2 : Int32) (v3 : Int32) (m : ej_M) : Option (Int32 × ej_M) :=
  (oj_dv v1 10).bind fun w1 =>
  (f_X10_at 1000 (w1 - 1) m).bind fun q2 =>
  if v1 = 20 then
    (Rf.2.1 q2.1 0 v2 (v3 + 1) q2.2).bind fun q3 =>
    some ((q3.1 + 3), q3.2)
  else
    if v1 = 30 then
      (Rf.2.1 q2.1 1 v2 (v3 + 1) q2.2).bind fun q4 =>
      some ((-q4.1), q4.2)
    else
      if v1 = 40 then
        (Rf.2.1 q2.1 2 v2 (v3 + 1) q2.2).bind fun q5 =>
        some ((q5.1 * 3), q5.2)
      else
        if v1 = 41 then
          (Rf.2.1 q2.1 1 (v2 + 1) (v3 + 1) q2.2).bind fun q6 =>
          some (q6.1, q6.2)
        else
          if v1 = 50 then
            (Rf.2.1 q2.1 3 v2 (v3 + 1) q2.2).bind fun q7 =>
            some ((q7.1 ^^^ 5), q7.2)
          else
            if v1 = 60 then
              (Rf.2.1 q2.1 2 v2 (v3 + 1) q2.2).bind fun q8 =>
              (Rf.1 0 2 v3 q8.2).bind fun q9 =>
              some ((q8.1 - q9.1), q9.2)
            else
              if v1 = 61 then
                (Rf.2.1 q2.1 3 v2 (v3 + 1) q2.2).bind fun q10 =>
                some ((q10.1 + 1), q10.2)
              else
                if v1 = 70 then
                  (Rf.2.1 q2.1 0 v2 (v3 + 1) q2.2).bind fun q11 =>
                  some ((q11.1 * 2), q11.2)
                else
                  if v1 = 80 then
                    (Rf.2.1 q2.1 1 v2 (v3 + 1) q2.2).bind fun q12 =>
                    (Rf.1 2 2 v3 q12.2).bind fun q13 =>
                    some ((q12.1 + q13.1), q13.2)
                  else
                    if v1 = 81 then
                      (Rf.2.1 q2.1 0 v2 (v3 + 1) q2.2).bind fun q14 =>
                      some ((q14.1 - 1), q14.2)
                    else
                      some (0, q2.2)
set_option maxHeartbeats 4000000 in
set_option maxRecDepth 100000 in
theorem b_X0_runUnder_e (e : Nat) (hd : 1 ≤ e) (Rf : ((Int32 → Int32 → Int32 → ej_M → Option (Int32 × ej_M)) × (Int32 → Int32 → Int32 → Int32 → ej_M → Option (Int32 × ej_M)) × (Int32 → Int32 → Int32 → ej_M → Option (Int32 × ej_M)))) (hR : Q_X0_own Rf e) (v1 : Int32) (v2 : Int32) (v3 : Int32) (m : ej_M) {x : (Int32 × ej_M)} {res : Option Value × ej_H} {K : (Int32 × ej_M) → Prop} (hf : f_X0_runUnder_e Rf v1 v2 v3 m = some x) (hK : K x) (h0 : ∀ q : (Int32 × ej_M), K q → res = (some (Value.int q.1), (ej_sh, q.2))) : ej_Z cX0_runUnder 6 (some .int) RX0 "runUnder" (e + 1) 0 [(0, .ref 34), (1, .int v1), (2, .int v2), (3, .int v3)] [] (ej_sh, m) res := by
  unfold f_X0_runUnder_e at hf
  refine z_gets (pc := 0) (a := 1000) dX0_runUnder_0 (by decide) ls_RX0_34 ?_
  refine z_iload_n (pc := 3) (i := 1) (j := 1) dX0_runUnder_3 rfl rfl ?_
  refine z_bipush (pc := 4) dX0_runUnder_4 kb_10 ?_
  obtain ⟨w1, hw1, hf⟩ := Option.bind_eq_some_iff.mp hf
  refine z_odiv (pc := 6) dX0_runUnder_6 hw1 ?_
  refine z_iconst (pc := 7) dX0_runUnder_7 ki_1 ?_
  refine z_isub (pc := 8) dX0_runUnder_8 ?_
  obtain ⟨q2, hq2, hf⟩ := Option.bind_eq_some_iff.mp hf
  refine z_oSi (pc := 9) (as := [.ref 1000, .int (w1 - 1)]) (rest := []) dX0_runUnder_9 lm_RX0_30 mf_X10_at ms_X10_at rfl rfl (Nat.le_of_ble_eq_true rfl) (c_X10_at e (by omega) 1000 (w1 - 1) m hq2) ?_
  refine z_istore (pc := 12) (i := 4) (ls' := [(4, .int q2.1), (0, .ref 34), (1, .int v1), (2, .int v2), (3, .int v3)]) dX0_runUnder_12 (Nat.le_of_ble_eq_true rfl) rfl ?_
  refine z_iload_n (pc := 14) (i := 3) (j := 4) dX0_runUnder_14 rfl rfl ?_
  refine z_iconst (pc := 15) dX0_runUnder_15 ki_1 ?_
  refine z_iadd (pc := 16) dX0_runUnder_16 ?_
  refine z_istore (pc := 17) (i := 5) (ls' := [(5, .int (v3 + 1)), (4, .int q2.1), (0, .ref 34), (1, .int v1), (2, .int v2), (3, .int v3)]) dX0_runUnder_17 (Nat.le_of_ble_eq_true rfl) rfl ?_
  refine z_iload_n (pc := 19) (i := 1) (j := 3) dX0_runUnder_19 rfl rfl ?_
  by_cases hs20 : v1 = 20
  · rw [if_pos hs20] at hf
    refine z_lookup (pc := 20) (off := 92) (tgt := 112) dX0_runUnder_20 (by decide) (by rw [hs20]; decide) (by decide) ?_
    refine z_aload_n (pc := 112) (i := 0) (j := 2) dX0_runUnder_112 rfl rfl ?_
    refine z_iload (pc := 113) (i := 4) (j := 1) dX0_runUnder_113 rfl ?_
    refine z_iconst (pc := 115) dX0_runUnder_115 ki_0 ?_
    refine z_iload_n (pc := 116) (i := 2) (j := 4) dX0_runUnder_116 rfl rfl ?_
    refine z_iload (pc := 117) (i := 5) (j := 0) dX0_runUnder_117 rfl ?_
    obtain ⟨q3, hq3, hf⟩ := Option.bind_eq_some_iff.mp hf
    refine z_oVi (pc := 119) (as := [.int q2.1, .int 0, .int v2, .int (v3 + 1)]) (rest := []) dX0_runUnder_119 lm_RX0_51 mf_X0_run mi_X0_run mv_X0_run rc_34 rfl rfl (Nat.le_of_ble_eq_true rfl) (hR.2.1 _ _ _ _ _ _ hq3) ?_
    refine z_iconst (pc := 122) dX0_runUnder_122 ki_3 ?_
    refine z_iadd (pc := 123) dX0_runUnder_123 ?_
    obtain rfl := Option.some.inj hf
    rw [h0 _ hK]
    exact z_iret dX0_runUnder_124 rfl rfl
  · rw [if_neg hs20] at hf
    by_cases hs30 : v1 = 30
    · rw [if_pos hs30] at hf
      refine z_lookup (pc := 20) (off := 105) (tgt := 125) dX0_runUnder_20 (by decide) (by rw [hs30]; decide) (by decide) ?_
      refine z_aload_n (pc := 125) (i := 0) (j := 2) dX0_runUnder_125 rfl rfl ?_
      refine z_iload (pc := 126) (i := 4) (j := 1) dX0_runUnder_126 rfl ?_
      refine z_iconst (pc := 128) dX0_runUnder_128 ki_1 ?_
      refine z_iload_n (pc := 129) (i := 2) (j := 4) dX0_runUnder_129 rfl rfl ?_
      refine z_iload (pc := 130) (i := 5) (j := 0) dX0_runUnder_130 rfl ?_
      obtain ⟨q4, hq4, hf⟩ := Option.bind_eq_some_iff.mp hf
      refine z_oVi (pc := 132) (as := [.int q2.1, .int 1, .int v2, .int (v3 + 1)]) (rest := []) dX0_runUnder_132 lm_RX0_51 mf_X0_run mi_X0_run mv_X0_run rc_34 rfl rfl (Nat.le_of_ble_eq_true rfl) (hR.2.1 _ _ _ _ _ _ hq4) ?_
      refine z_ineg (pc := 135) dX0_runUnder_135 ?_
      obtain rfl := Option.some.inj hf
      rw [h0 _ hK]
      exact z_iret dX0_runUnder_136 rfl rfl
    · rw [if_neg hs30] at hf
      by_cases hs40 : v1 = 40
      · rw [if_pos hs40] at hf
        refine z_lookup (pc := 20) (off := 117) (tgt := 137) dX0_runUnder_20 (by decide) (by rw [hs40]; decide) (by decide) ?_
        refine z_aload_n (pc := 137) (i := 0) (j := 2) dX0_runUnder_137 rfl rfl ?_
        refine z_iload (pc := 138) (i := 4) (j := 1) dX0_runUnder_138 rfl ?_
        refine z_iconst (pc := 140) dX0_runUnder_140 ki_2 ?_
        refine z_iload_n (pc := 141) (i := 2) (j := 4) dX0_runUnder_141 rfl rfl ?_
        refine z_iload (pc := 142) (i := 5) (j := 0) dX0_runUnder_142 rfl ?_
        obtain ⟨q5, hq5, hf⟩ := Option.bind_eq_some_iff.mp hf
        refine z_oVi (pc := 144) (as := [.int q2.1, .int 2, .int v2, .int (v3 + 1)]) (rest := []) dX0_runUnder_144 lm_RX0_51 mf_X0_run mi_X0_run mv_X0_run rc_34 rfl rfl (Nat.le_of_ble_eq_true rfl) (hR.2.1 _ _ _ _ _ _ hq5) ?_
        refine z_iconst (pc := 147) dX0_runUnder_147 ki_3 ?_
        refine z_imul (pc := 148) dX0_runUnder_148 ?_
        obtain rfl := Option.some.inj hf
        rw [h0 _ hK]
        exact z_iret dX0_runUnder_149 rfl rfl
      · rw [if_neg hs40] at hf
        by_cases hs41 : v1 = 41
        · rw [if_pos hs41] at hf
          refine z_lookup (pc := 20) (off := 130) (tgt := 150) dX0_runUnder_20 (by decide) (by rw [hs41]; decide) (by decide) ?_
          refine z_aload_n (pc := 150) (i := 0) (j := 2) dX0_runUnder_150 rfl rfl ?_
          refine z_iload (pc := 151) (i := 4) (j := 1) dX0_runUnder_151 rfl ?_
          refine z_iconst (pc := 153) dX0_runUnder_153 ki_1 ?_
          refine z_iload_n (pc := 154) (i := 2) (j := 4) dX0_runUnder_154 rfl rfl ?_
          refine z_iconst (pc := 155) dX0_runUnder_155 ki_1 ?_
          refine z_iadd (pc := 156) dX0_runUnder_156 ?_
          refine z_iload (pc := 157) (i := 5) (j := 0) dX0_runUnder_157 rfl ?_
          obtain ⟨q6, hq6, hf⟩ := Option.bind_eq_some_iff.mp hf
          refine z_oVi (pc := 159) (as := [.int q2.1, .int 1, .int (v2 + 1), .int (v3 + 1)]) (rest := []) dX0_runUnder_159 lm_RX0_51 mf_X0_run mi_X0_run mv_X0_run rc_34 rfl rfl (Nat.le_of_ble_eq_true rfl) (hR.2.1 _ _ _ _ _ _ hq6) ?_
          obtain rfl := Option.some.inj hf
          rw [h0 _ hK]
          exact z_iret dX0_runUnder_162 rfl rfl
        · rw [if_neg hs41] at hf
          by_cases hs50 : v1 = 50
          · rw [if_pos hs50] at hf
            refine z_lookup (pc := 20) (off := 143) (tgt := 163) dX0_runUnder_20 (by decide) (by rw [hs50]; decide) (by decide) ?_
            refine z_aload_n (pc := 163) (i := 0) (j := 2) dX0_runUnder_163 rfl rfl ?_
            refine z_iload (pc := 164) (i := 4) (j := 1) dX0_runUnder_164 rfl ?_
            refine z_iconst (pc := 166) dX0_runUnder_166 ki_3 ?_
            refine z_iload_n (pc := 167) (i := 2) (j := 4) dX0_runUnder_167 rfl rfl ?_
            refine z_iload (pc := 168) (i := 5) (j := 0) dX0_runUnder_168 rfl ?_
            obtain ⟨q7, hq7, hf⟩ := Option.bind_eq_some_iff.mp hf
            refine z_oVi (pc := 170) (as := [.int q2.1, .int 3, .int v2, .int (v3 + 1)]) (rest := []) dX0_runUnder_170 lm_RX0_51 mf_X0_run mi_X0_run mv_X0_run rc_34 rfl rfl (Nat.le_of_ble_eq_true rfl) (hR.2.1 _ _ _ _ _ _ hq7) ?_
            refine z_iconst (pc := 173) dX0_runUnder_173 ki_5 ?_
            refine z_ixor (pc := 174) dX0_runUnder_174 ?_
            obtain rfl := Option.some.inj hf
            rw [h0 _ hK]
            exact z_iret dX0_runUnder_175 rfl rfl
          · rw [if_neg hs50] at hf
            by_cases hs60 : v1 = 60
            · rw [if_pos hs60] at hf
              refine z_lookup (pc := 20) (off := 156) (tgt := 176) dX0_runUnder_20 (by decide) (by rw [hs60]; decide) (by decide) ?_
              refine z_aload_n (pc := 176) (i := 0) (j := 2) dX0_runUnder_176 rfl rfl ?_
              refine z_iload (pc := 177) (i := 4) (j := 1) dX0_runUnder_177 rfl ?_
              refine z_iconst (pc := 179) dX0_runUnder_179 ki_2 ?_
              refine z_iload_n (pc := 180) (i := 2) (j := 4) dX0_runUnder_180 rfl rfl ?_
              refine z_iload (pc := 181) (i := 5) (j := 0) dX0_runUnder_181 rfl ?_
              obtain ⟨q8, hq8, hf⟩ := Option.bind_eq_some_iff.mp hf
              refine z_oVi (pc := 183) (as := [.int q2.1, .int 2, .int v2, .int (v3 + 1)]) (rest := []) dX0_runUnder_183 lm_RX0_51 mf_X0_run mi_X0_run mv_X0_run rc_34 rfl rfl (Nat.le_of_ble_eq_true rfl) (hR.2.1 _ _ _ _ _ _ hq8) ?_
              refine z_aload_n (pc := 186) (i := 0) (j := 2) dX0_runUnder_186 rfl rfl ?_
              refine z_iconst (pc := 187) dX0_runUnder_187 ki_0 ?_
              refine z_iconst (pc := 188) dX0_runUnder_188 ki_2 ?_
              refine z_iload_n (pc := 189) (i := 3) (j := 5) dX0_runUnder_189 rfl rfl ?_
              obtain ⟨q9, hq9, hf⟩ := Option.bind_eq_some_iff.mp hf
              refine z_oVi (pc := 190) (as := [.int 0, .int 2, .int v3]) (rest := [.int q8.1]) dX0_runUnder_190 lm_RX0_43 mf_X0_own mi_X0_own mv_X0_own rc_34 rfl rfl (Nat.le_of_ble_eq_true rfl) (hR.1 _ _ _ _ _ hq9) ?_
              refine z_isub (pc := 193) dX0_runUnder_193 ?_
              obtain rfl := Option.some.inj hf
              rw [h0 _ hK]
              exact z_iret dX0_runUnder_194 rfl rfl
            · rw [if_neg hs60] at hf
              by_cases hs61 : v1 = 61
              · rw [if_pos hs61] at hf
                refine z_lookup (pc := 20) (off := 175) (tgt := 195) dX0_runUnder_20 (by decide) (by rw [hs61]; decide) (by decide) ?_
                refine z_aload_n (pc := 195) (i := 0) (j := 2) dX0_runUnder_195 rfl rfl ?_
                refine z_iload (pc := 196) (i := 4) (j := 1) dX0_runUnder_196 rfl ?_
                refine z_iconst (pc := 198) dX0_runUnder_198 ki_3 ?_
                refine z_iload_n (pc := 199) (i := 2) (j := 4) dX0_runUnder_199 rfl rfl ?_
                refine z_iload (pc := 200) (i := 5) (j := 0) dX0_runUnder_200 rfl ?_
                obtain ⟨q10, hq10, hf⟩ := Option.bind_eq_some_iff.mp hf
                refine z_oVi (pc := 202) (as := [.int q2.1, .int 3, .int v2, .int (v3 + 1)]) (rest := []) dX0_runUnder_202 lm_RX0_51 mf_X0_run mi_X0_run mv_X0_run rc_34 rfl rfl (Nat.le_of_ble_eq_true rfl) (hR.2.1 _ _ _ _ _ _ hq10) ?_
                refine z_iconst (pc := 205) dX0_runUnder_205 ki_1 ?_
                refine z_iadd (pc := 206) dX0_runUnder_206 ?_
                obtain rfl := Option.some.inj hf
                rw [h0 _ hK]
                exact z_iret dX0_runUnder_207 rfl rfl
              · rw [if_neg hs61] at hf
                by_cases hs70 : v1 = 70
                · rw [if_pos hs70] at hf
                  refine z_lookup (pc := 20) (off := 188) (tgt := 208) dX0_runUnder_20 (by decide) (by rw [hs70]; decide) (by decide) ?_
                  refine z_aload_n (pc := 208) (i := 0) (j := 2) dX0_runUnder_208 rfl rfl ?_
                  refine z_iload (pc := 209) (i := 4) (j := 1) dX0_runUnder_209 rfl ?_
                  refine z_iconst (pc := 211) dX0_runUnder_211 ki_0 ?_
                  refine z_iload_n (pc := 212) (i := 2) (j := 4) dX0_runUnder_212 rfl rfl ?_
                  refine z_iload (pc := 213) (i := 5) (j := 0) dX0_runUnder_213 rfl ?_
                  obtain ⟨q11, hq11, hf⟩ := Option.bind_eq_some_iff.mp hf
                  refine z_oVi (pc := 215) (as := [.int q2.1, .int 0, .int v2, .int (v3 + 1)]) (rest := []) dX0_runUnder_215 lm_RX0_51 mf_X0_run mi_X0_run mv_X0_run rc_34 rfl rfl (Nat.le_of_ble_eq_true rfl) (hR.2.1 _ _ _ _ _ _ hq11) ?_
                  refine z_iconst (pc := 218) dX0_runUnder_218 ki_2 ?_
                  refine z_imul (pc := 219) dX0_runUnder_219 ?_
                  obtain rfl := Option.some.inj hf
                  rw [h0 _ hK]
                  exact z_iret dX0_runUnder_220 rfl rfl
                · rw [if_neg hs70] at hf
                  by_cases hs80 : v1 = 80
                  · rw [if_pos hs80] at hf
                    refine z_lookup (pc := 20) (off := 201) (tgt := 221) dX0_runUnder_20 (by decide) (by rw [hs80]; decide) (by decide) ?_
                    refine z_aload_n (pc := 221) (i := 0) (j := 2) dX0_runUnder_221 rfl rfl ?_
                    refine z_iload (pc := 222) (i := 4) (j := 1) dX0_runUnder_222 rfl ?_
                    refine z_iconst (pc := 224) dX0_runUnder_224 ki_1 ?_
                    refine z_iload_n (pc := 225) (i := 2) (j := 4) dX0_runUnder_225 rfl rfl ?_
                    refine z_iload (pc := 226) (i := 5) (j := 0) dX0_runUnder_226 rfl ?_
                    obtain ⟨q12, hq12, hf⟩ := Option.bind_eq_some_iff.mp hf
                    refine z_oVi (pc := 228) (as := [.int q2.1, .int 1, .int v2, .int (v3 + 1)]) (rest := []) dX0_runUnder_228 lm_RX0_51 mf_X0_run mi_X0_run mv_X0_run rc_34 rfl rfl (Nat.le_of_ble_eq_true rfl) (hR.2.1 _ _ _ _ _ _ hq12) ?_
                    refine z_aload_n (pc := 231) (i := 0) (j := 2) dX0_runUnder_231 rfl rfl ?_
                    refine z_iconst (pc := 232) dX0_runUnder_232 ki_2 ?_
                    refine z_iconst (pc := 233) dX0_runUnder_233 ki_2 ?_
                    refine z_iload_n (pc := 234) (i := 3) (j := 5) dX0_runUnder_234 rfl rfl ?_
                    obtain ⟨q13, hq13, hf⟩ := Option.bind_eq_some_iff.mp hf
                    refine z_oVi (pc := 235) (as := [.int 2, .int 2, .int v3]) (rest := [.int q12.1]) dX0_runUnder_235 lm_RX0_43 mf_X0_own mi_X0_own mv_X0_own rc_34 rfl rfl (Nat.le_of_ble_eq_true rfl) (hR.1 _ _ _ _ _ hq13) ?_
                    refine z_iadd (pc := 238) dX0_runUnder_238 ?_
                    obtain rfl := Option.some.inj hf
                    rw [h0 _ hK]
                    exact z_iret dX0_runUnder_239 rfl rfl
                  · rw [if_neg hs80] at hf
                    by_cases hs81 : v1 = 81
                    · rw [if_pos hs81] at hf
                      refine z_lookup (pc := 20) (off := 220) (tgt := 240) dX0_runUnder_20 (by decide) (by rw [hs81]; decide) (by decide) ?_
                      refine z_aload_n (pc := 240) (i := 0) (j := 2) dX0_runUnder_240 rfl rfl ?_
                      refine z_iload (pc := 241) (i := 4) (j := 1) dX0_runUnder_241 rfl ?_
                      refine z_iconst (pc := 243) dX0_runUnder_243 ki_0 ?_
                      refine z_iload_n (pc := 244) (i := 2) (j := 4) dX0_runUnder_244 rfl rfl ?_
                      refine z_iload (pc := 245) (i := 5) (j := 0) dX0_runUnder_245 rfl ?_
                      obtain ⟨q14, hq14, hf⟩ := Option.bind_eq_some_iff.mp hf
                      refine z_oVi (pc := 247) (as := [.int q2.1, .int 0, .int v2, .int (v3 + 1)]) (rest := []) dX0_runUnder_247 lm_RX0_51 mf_X0_run mi_X0_run mv_X0_run rc_34 rfl rfl (Nat.le_of_ble_eq_true rfl) (hR.2.1 _ _ _ _ _ _ hq14) ?_
                      refine z_iconst (pc := 250) dX0_runUnder_250 ki_1 ?_
                      refine z_isub (pc := 251) dX0_runUnder_251 ?_
                      obtain rfl := Option.some.inj hf
                      rw [h0 _ hK]
                      exact z_iret dX0_runUnder_252 rfl rfl
                    · rw [if_neg hs81] at hf
                      refine z_lookup (pc := 20) (off := 233) (tgt := 253) dX0_runUnder_20 (by decide) ((lv_osw hs20 (show (20 : Int32).toInt = 20 by decide)).trans ((lv_osw hs30 (show (30 : Int32).toInt = 30 by decide)).trans ((lv_osw hs40 (show (40 : Int32).toInt = 40 by decide)).trans ((lv_osw hs41 (show (41 : Int32).toInt = 41 by decide)).trans ((lv_osw hs50 (show (50 : Int32).toInt = 50 by decide)).trans ((lv_osw hs60 (show (60 : Int32).toInt = 60 by decide)).trans ((lv_osw hs61 (show (61 : Int32).toInt = 61 by decide)).trans ((lv_osw hs70 (show (70 : Int32).toInt = 70 by decide)).trans ((lv_osw hs80 (show (80 : Int32).toInt = 80 by decide)).trans ((lv_osw hs81 (show (81 : Int32).toInt = 81 by decide)).trans (rfl))))))))))) (by decide) ?_
                      refine z_iconst (pc := 253) dX0_runUnder_253 ki_0 ?_
                      obtain rfl := Option.some.inj hf
                      rw [h0 _ hK]
                      exact z_iret dX0_runUnder_254 rfl rfl
def g_X0_own : Nat → ((Int32 → Int32 → Int32 → ej_M → Option (Int32 × ej_M)) × (Int32 → Int32 → Int32 → Int32 → ej_M → Option (Int32 × ej_M)) × (Int32 → Int32 → Int32 → ej_M → Option (Int32 × ej_M)))
  | 0 => (fun _ _ _ _ => none, fun _ _ _ _ _ => none, fun _ _ _ _ => none)
  | n + 1 => (f_X0_own_e (g_X0_own n), f_X0_run_e (g_X0_own n), f_X0_runUnder_e (g_X0_own n))
set_option maxHeartbeats 4000000 in
set_option maxRecDepth 100000 in
theorem c9_X0_own : ∀ (n d : Nat), 2 + n ≤ d → Q_X0_own (g_X0_own n) d := by
  intro n
  induction n with
  | zero =>
    intro d _
    exact ⟨(fun _ _ _ _ _ h => by cases h), (fun _ _ _ _ _ _ h => by cases h), (fun _ _ _ _ _ h => by cases h)⟩
  | succ n ih =>
    intro d hd
    obtain ⟨e, rfl⟩ : ∃ e, d = e + 1 := ⟨d - 1, by omega⟩
    refine ⟨?_, ?_, ?_⟩
    · intro v1 v2 v3 m q hf
      exact z_met (by decide +kernel) (Nat.le_of_ble_eq_true rfl) (b_X0_own_e e (by omega) (g_X0_own n) (ih e (by omega)) v1 v2 v3 m (K := fun z => ((some (Value.int q.1), (ej_sh, q.2)) : Option Value × ej_H) = (some (Value.int z.1), (ej_sh, z.2))) hf rfl (fun _ h => h))
    · intro v1 v2 v3 v4 m q hf
      exact z_met (by decide +kernel) (Nat.le_of_ble_eq_true rfl) (b_X0_run_e e (by omega) (g_X0_own n) (ih e (by omega)) v1 v2 v3 v4 m (K := fun z => ((some (Value.int q.1), (ej_sh, q.2)) : Option Value × ej_H) = (some (Value.int z.1), (ej_sh, z.2))) hf rfl (fun _ h => h))
    · intro v1 v2 v3 m q hf
      exact z_met (by decide +kernel) (Nat.le_of_ble_eq_true rfl) (b_X0_runUnder_e e (by omega) (g_X0_own n) (ih e (by omega)) v1 v2 v3 m (K := fun z => ((some (Value.int q.1), (ej_sh, q.2)) : Option Value × ej_H) = (some (Value.int z.1), (ej_sh, z.2))) hf rfl (fun _ h => h))
def f_X0_own (n : Nat) (v1 : Int32) (v2 : Int32) (v3 : Int32) (m : ej_M) : Option (Int32 × ej_M) := (g_X0_own n).1 v1 v2 v3 m
set_option maxHeartbeats 4000000 in
set_option maxRecDepth 100000 in
theorem c_X0_own (d : Nat) (hd : 122 ≤ d) (v1 : Int32) (v2 : Int32) (v3 : Int32) (m : ej_M) {q : (Int32 × ej_M)} (hf : f_X0_own oj_RF v1 v2 v3 m = some q) : ej_Ct yX0_own cX0_own 4 (some .int) d [.ref 34, .int v1, .int v2, .int v3] (ej_sh, m) (some (Value.int q.1), (ej_sh, q.2)) := (c9_X0_own oj_RF d hd).1 v1 v2 v3 m q hf
def f_X0_run (n : Nat) (v1 : Int32) (v2 : Int32) (v3 : Int32) (v4 : Int32) (m : ej_M) : Option (Int32 × ej_M) := (g_X0_own n).2.1 v1 v2 v3 v4 m
set_option maxHeartbeats 4000000 in
set_option maxRecDepth 100000 in
theorem c_X0_run (d : Nat) (hd : 122 ≤ d) (v1 : Int32) (v2 : Int32) (v3 : Int32) (v4 : Int32) (m : ej_M) {q : (Int32 × ej_M)} (hf : f_X0_run oj_RF v1 v2 v3 v4 m = some q) : ej_Ct yX0_run cX0_run 6 (some .int) d [.ref 34, .int v1, .int v2, .int v3, .int v4] (ej_sh, m) (some (Value.int q.1), (ej_sh, q.2)) := (c9_X0_own oj_RF d hd).2.1 v1 v2 v3 v4 m q hf
def f_X0_runUnder (n : Nat) (v1 : Int32) (v2 : Int32) (v3 : Int32) (m : ej_M) : Option (Int32 × ej_M) := (g_X0_own n).2.2 v1 v2 v3 m
set_option maxHeartbeats 4000000 in
set_option maxRecDepth 100000 in
theorem c_X0_runUnder (d : Nat) (hd : 122 ≤ d) (v1 : Int32) (v2 : Int32) (v3 : Int32) (m : ej_M) {q : (Int32 × ej_M)} (hf : f_X0_runUnder oj_RF v1 v2 v3 m = some q) : ej_Ct yX0_runUnder cX0_runUnder 6 (some .int) d [.ref 34, .int v1, .int v2, .int v3] (ej_sh, m) (some (Value.int q.1), (ej_sh, q.2)) := (c9_X0_own oj_RF d hd).2.2 v1 v2 v3 m q hf
def f_X0_start (v1 : Int32) (v2 : Int32) (v3 : Int32) (m : ej_M) : Option (Int32 × ej_M) :=
  (oj_pf m 34 3 0).bind fun m1 =>
  (f_X0_has v1 m1).bind fun q2 =>
  if q2.1 = 0 then
    some (0, q2.2)
  else
    if v2 < 0 then
      some (0, q2.2)
    else
      if v2 < 4 then
        (oj_pf q2.2 34 4 v1).bind fun m3 =>
        (f_X0_own oj_RF v2 v3 0 m3).bind fun q4 =>
        some (q4.1, q4.2)
      else
        some (0, q2.2)
set_option maxHeartbeats 4000000 in
set_option maxRecDepth 100000 in
theorem b_X0_start (e : Nat) (hd : 122 ≤ e) (v1 : Int32) (v2 : Int32) (v3 : Int32) (m : ej_M) {x : (Int32 × ej_M)} {res : Option Value × ej_H} {K : (Int32 × ej_M) → Prop} (hf : f_X0_start v1 v2 v3 m = some x) (hK : K x) (h0 : ∀ q : (Int32 × ej_M), K q → res = (some (Value.int q.1), (ej_sh, q.2))) : ej_Z cX0_start 4 (some .int) RX0 "start" (e + 1) 0 [(0, .ref 34), (1, .int v1), (2, .int v2), (3, .int v3)] [] (ej_sh, m) res := by
  unfold f_X0_start at hf
  refine z_aload_n (pc := 0) (i := 0) (j := 0) dX0_start_0 rfl rfl ?_
  refine z_iconst (pc := 1) dX0_start_1 ki_0 ?_
  obtain ⟨m1, hm1, hf⟩ := Option.bind_eq_some_iff.mp hf
  refine z_oputI (pc := 2) dX0_start_2 lf_RX0_37 sh_34 rfl hm1 ?_
  refine z_aload_n (pc := 5) (i := 0) (j := 0) dX0_start_5 rfl rfl ?_
  refine z_iload_n (pc := 6) (i := 1) (j := 1) dX0_start_6 rfl rfl ?_
  obtain ⟨q2, hq2, hf⟩ := Option.bind_eq_some_iff.mp hf
  refine z_oVi (pc := 7) (as := [.int v1]) (rest := []) dX0_start_7 lm_RX0_26 mf_X0_has mi_X0_has mv_X0_has rc_34 rfl rfl (Nat.le_of_ble_eq_true rfl) (c_X0_has e (by omega) v1 m1 hq2) ?_
  refine z_if_eq (pc := 10) (tgt := 22) dX0_start_10 (by decide) (fun hc => ?_) (fun hc => ?_)
  · rw [if_pos hc] at hf
    refine z_iconst (pc := 22) dX0_start_22 ki_0 ?_
    obtain rfl := Option.some.inj hf
    rw [h0 _ hK]
    exact z_iret dX0_start_23 rfl rfl
  · rw [if_neg hc] at hf
    refine z_iload_n (pc := 13) (i := 2) (j := 2) dX0_start_13 rfl rfl ?_
    refine z_if_lt (pc := 14) (tgt := 22) dX0_start_14 (by decide) (fun hc => ?_) (fun hc => ?_)
    · rw [if_pos hc] at hf
      refine z_iconst (pc := 22) dX0_start_22 ki_0 ?_
      obtain rfl := Option.some.inj hf
      rw [h0 _ hK]
      exact z_iret dX0_start_23 rfl rfl
    · rw [if_neg hc] at hf
      refine z_iload_n (pc := 17) (i := 2) (j := 2) dX0_start_17 rfl rfl ?_
      refine z_iconst (pc := 18) dX0_start_18 ki_4 ?_
      refine z_icmp_lt (pc := 19) (tgt := 24) dX0_start_19 (by decide) (fun hc => ?_) (fun hc => ?_)
      · rw [if_pos hc] at hf
        refine z_aload_n (pc := 24) (i := 0) (j := 0) dX0_start_24 rfl rfl ?_
        refine z_iload_n (pc := 25) (i := 1) (j := 1) dX0_start_25 rfl rfl ?_
        obtain ⟨m3, hm3, hf⟩ := Option.bind_eq_some_iff.mp hf
        refine z_oputI (pc := 26) dX0_start_26 lf_RX0_40 sh_34 rfl hm3 ?_
        refine z_aload_n (pc := 29) (i := 0) (j := 0) dX0_start_29 rfl rfl ?_
        refine z_iload_n (pc := 30) (i := 2) (j := 2) dX0_start_30 rfl rfl ?_
        refine z_iload_n (pc := 31) (i := 3) (j := 3) dX0_start_31 rfl rfl ?_
        refine z_iconst (pc := 32) dX0_start_32 ki_0 ?_
        obtain ⟨q4, hq4, hf⟩ := Option.bind_eq_some_iff.mp hf
        refine z_oVi (pc := 33) (as := [.int v2, .int v3, .int 0]) (rest := []) dX0_start_33 lm_RX0_43 mf_X0_own mi_X0_own mv_X0_own rc_34 rfl rfl (Nat.le_of_ble_eq_true rfl) (c_X0_own e (by omega) v2 v3 0 m3 hq4) ?_
        obtain rfl := Option.some.inj hf
        rw [h0 _ hK]
        exact z_iret dX0_start_36 rfl rfl
      · rw [if_neg hc] at hf
        refine z_iconst (pc := 22) dX0_start_22 ki_0 ?_
        obtain rfl := Option.some.inj hf
        rw [h0 _ hK]
        exact z_iret dX0_start_23 rfl rfl
set_option maxHeartbeats 4000000 in
set_option maxRecDepth 100000 in
theorem c_X0_start (d : Nat) (hd : 123 ≤ d) (v1 : Int32) (v2 : Int32) (v3 : Int32) (m : ej_M) {q : (Int32 × ej_M)} (hf : f_X0_start v1 v2 v3 m = some q) : ej_Ct yX0_start cX0_start 4 (some .int) d [.ref 34, .int v1, .int v2, .int v3] (ej_sh, m) ((some (Value.int q.1), (ej_sh, q.2)) : Option Value × ej_H) := by
  obtain ⟨e, rfl⟩ : ∃ e, d = e + 1 := ⟨d - 1, by omega⟩
  exact z_met (by decide +kernel) (Nat.le_of_ble_eq_true rfl) (b_X0_start e (by omega) v1 v2 v3 m (K := fun z => ((some (Value.int q.1), (ej_sh, q.2)) : Option Value × ej_H) = (some (Value.int z.1), (ej_sh, z.2))) hf rfl (fun _ h => h))
def f_X10_act (v1 : Int32) (v2 : Int32) (v3 : Int32) (m : ej_M) : Option (Int32 × ej_M) :=
  (f_X0_start v1 v2 v3 m).bind fun q1 =>
  some (q1.1, q1.2)
set_option maxHeartbeats 4000000 in
set_option maxRecDepth 100000 in
theorem b_X10_act (e : Nat) (hd : 123 ≤ e) (v1 : Int32) (v2 : Int32) (v3 : Int32) (m : ej_M) {x : (Int32 × ej_M)} {res : Option Value × ej_H} {K : (Int32 × ej_M) → Prop} (hf : f_X10_act v1 v2 v3 m = some x) (hK : K x) (h0 : ∀ q : (Int32 × ej_M), K q → res = (some (Value.int q.1), (ej_sh, q.2))) : ej_Z cX10_act 4 (some .int) RX10 "act" (e + 1) 0 [(0, .ref 0), (1, .int v1), (2, .int v2), (3, .int v3)] [] (ej_sh, m) res := by
  unfold f_X10_act at hf
  refine z_aload_n (pc := 0) (i := 0) (j := 0) dX10_act_0 rfl rfl ?_
  refine z_ogetR (pc := 1) dX10_act_1 lf_RX10_72 sh_0 rfl rfl rfl ?_
  refine z_iload_n (pc := 4) (i := 1) (j := 1) dX10_act_4 rfl rfl ?_
  refine z_iload_n (pc := 5) (i := 2) (j := 2) dX10_act_5 rfl rfl ?_
  refine z_iload_n (pc := 6) (i := 3) (j := 3) dX10_act_6 rfl rfl ?_
  obtain ⟨q1, hq1, hf⟩ := Option.bind_eq_some_iff.mp hf
  refine z_oVi (pc := 7) (as := [.int v1, .int v2, .int v3]) (rest := []) dX10_act_7 lm_RX10_259 mf_X0_start mi_X0_start mv_X0_start rc_34 rfl rfl (Nat.le_of_ble_eq_true rfl) (c_X0_start e (by omega) v1 v2 v3 m hq1) ?_
  obtain rfl := Option.some.inj hf
  rw [h0 _ hK]
  exact z_iret dX10_act_10 rfl rfl
set_option maxHeartbeats 4000000 in
set_option maxRecDepth 100000 in
theorem c_X10_act (d : Nat) (hd : 124 ≤ d) (v1 : Int32) (v2 : Int32) (v3 : Int32) (m : ej_M) {q : (Int32 × ej_M)} (hf : f_X10_act v1 v2 v3 m = some q) : ej_Ct yX10_act cX10_act 4 (some .int) d [.ref 0, .int v1, .int v2, .int v3] (ej_sh, m) ((some (Value.int q.1), (ej_sh, q.2)) : Option Value × ej_H) := by
  obtain ⟨e, rfl⟩ : ∃ e, d = e + 1 := ⟨d - 1, by omega⟩
  exact z_met (by decide +kernel) (Nat.le_of_ble_eq_true rfl) (b_X10_act e (by omega) v1 v2 v3 m (K := fun z => ((some (Value.int q.1), (ej_sh, q.2)) : Option Value × ej_H) = (some (Value.int z.1), (ej_sh, z.2))) hf rfl (fun _ h => h))
def f_X11_ran_B19  (m : ej_M) : Option (Unit × ej_M) :=
  (oj_pf m 41 45 ((m.1 41 45) + 1)).bind fun m1 =>
  some ((), m1)
set_option maxHeartbeats 4000000 in
set_option maxRecDepth 100000 in
theorem b_X11_ran_B19 (d : Nat)  (m : ej_M) {x : (Unit × ej_M)} {res : Option Value × ej_H} {K : (Unit × ej_M) → Prop} (hf : f_X11_ran_B19  m = some x) (hK : K x) (h0 : ∀ q : (Unit × ej_M), K q → res = (none, (ej_sh, q.2))) : ej_Z cX11_ran 2 none RX11 "ran" d 19 [(0, .ref 41)] [] (ej_sh, m) res := by
  unfold f_X11_ran_B19 at hf
  refine z_aload_n (pc := 19) (i := 0) (j := 0) dX11_ran_19 rfl rfl ?_
  refine z_dup (pc := 20) dX11_ran_20 rfl ?_
  refine z_ogetI (pc := 21) dX11_ran_21 lf_RX11_341 sh_41 rfl rfl ?_
  refine z_iconst (pc := 24) dX11_ran_24 ki_1 ?_
  refine z_iadd (pc := 25) dX11_ran_25 ?_
  obtain ⟨m1, hm1, hf⟩ := Option.bind_eq_some_iff.mp hf
  refine z_oputI (pc := 26) dX11_ran_26 lf_RX11_341 sh_41 rfl hm1 ?_
  obtain rfl := Option.some.inj hf
  rw [h0 _ hK]
  exact z_ret dX11_ran_29 rfl
def f_X11_ran (v1 : Int32) (m : ej_M) : Option (Unit × ej_M) :=
  if 24 ≤ (m.1 41 45) then
    f_X11_ran_B19  m
  else
    (oj_st 0 m 65 (m.1 41 45) v1).bind fun m1 =>
    f_X11_ran_B19  m1
set_option maxHeartbeats 4000000 in
set_option maxRecDepth 100000 in
theorem b_X11_ran (d : Nat) (v1 : Int32) (m : ej_M) {x : (Unit × ej_M)} {res : Option Value × ej_H} {K : (Unit × ej_M) → Prop} (hf : f_X11_ran v1 m = some x) (hK : K x) (h0 : ∀ q : (Unit × ej_M), K q → res = (none, (ej_sh, q.2))) : ej_Z cX11_ran 2 none RX11 "ran" d 0 [(0, .ref 41), (1, .int v1)] [] (ej_sh, m) res := by
  unfold f_X11_ran at hf
  refine z_aload_n (pc := 0) (i := 0) (j := 0) dX11_ran_0 rfl rfl ?_
  refine z_ogetI (pc := 1) dX11_ran_1 lf_RX11_341 sh_41 rfl rfl ?_
  refine z_bipush (pc := 4) dX11_ran_4 kb_24 ?_
  refine z_icmp_ge (pc := 6) (tgt := 19) dX11_ran_6 (by decide) (fun hc => ?_) (fun hc => ?_)
  · rw [if_pos hc] at hf
    exact z_pick [0] rfl (b_X11_ran_B19 d  m (K := K) hf hK  h0)
  · rw [if_neg hc] at hf
    refine z_aload_n (pc := 9) (i := 0) (j := 0) dX11_ran_9 rfl rfl ?_
    refine z_ogetR (pc := 10) dX11_ran_10 lf_RX11_81 sh_41 rfl rfl rfl ?_
    refine z_aload_n (pc := 13) (i := 0) (j := 0) dX11_ran_13 rfl rfl ?_
    refine z_ogetI (pc := 14) dX11_ran_14 lf_RX11_341 sh_41 rfl rfl ?_
    refine z_iload_n (pc := 17) (i := 1) (j := 1) dX11_ran_17 rfl rfl ?_
    obtain ⟨m1, hm1, hf⟩ := Option.bind_eq_some_iff.mp hf
    refine z_oiast (pc := 18) dX11_ran_18 hm1 ?_
    exact z_pick [0] rfl (b_X11_ran_B19 d  m1 (K := K) hf hK  h0)
set_option maxHeartbeats 4000000 in
set_option maxRecDepth 100000 in
theorem c_X11_ran (d : Nat) (hd : 0 ≤ d) (v1 : Int32) (m : ej_M) {q : (Unit × ej_M)} (hf : f_X11_ran v1 m = some q) : ej_Ct yX11_ran cX11_ran 2 none d [.ref 41, .int v1] (ej_sh, m) ((none, (ej_sh, q.2)) : Option Value × ej_H) := by
  exact z_met (by decide +kernel) (Nat.le_of_ble_eq_true rfl) (b_X11_ran d v1 m (K := fun z => ((none, (ej_sh, q.2)) : Option Value × ej_H) = (none, (ej_sh, z.2))) hf rfl (fun _ h => h))
def f_X11_plainStands (v1 : Int32) (v2 : Int32) (m : ej_M) : Option (Int32 × ej_M) :=
  (f_X11_ran 1 m).bind fun q1 =>
  some ((v2 + v1), q1.2)
set_option maxHeartbeats 4000000 in
set_option maxRecDepth 100000 in
theorem b_X11_plainStands (e : Nat) (hd : 0 ≤ e) (v1 : Int32) (v2 : Int32) (m : ej_M) {x : (Int32 × ej_M)} {res : Option Value × ej_H} {K : (Int32 × ej_M) → Prop} (hf : f_X11_plainStands v1 v2 m = some x) (hK : K x) (h0 : ∀ q : (Int32 × ej_M), K q → res = (some (Value.int q.1), (ej_sh, q.2))) : ej_Z cX11_plainStands 3 (some .int) RX11 "plainStands" (e + 1) 0 [(0, .ref 41), (1, .int v1), (2, .int v2)] [] (ej_sh, m) res := by
  unfold f_X11_plainStands at hf
  refine z_aload_n (pc := 0) (i := 0) (j := 0) dX11_plainStands_0 rfl rfl ?_
  refine z_iconst (pc := 1) dX11_plainStands_1 ki_1 ?_
  obtain ⟨q1, hq1, hf⟩ := Option.bind_eq_some_iff.mp hf
  refine z_oVv (pc := 2) (as := [.int 1]) (rest := []) dX11_plainStands_2 lm_RX11_344 mf_X11_ran mi_X11_ran mv_X11_ran rc_41 rfl rfl (Nat.le_of_ble_eq_true rfl) (c_X11_ran e (by omega) 1 m hq1) ?_
  refine z_iload_n (pc := 5) (i := 2) (j := 2) dX11_plainStands_5 rfl rfl ?_
  refine z_iload_n (pc := 6) (i := 1) (j := 1) dX11_plainStands_6 rfl rfl ?_
  refine z_iadd (pc := 7) dX11_plainStands_7 ?_
  obtain rfl := Option.some.inj hf
  rw [h0 _ hK]
  exact z_iret dX11_plainStands_8 rfl rfl
set_option maxHeartbeats 4000000 in
set_option maxRecDepth 100000 in
theorem c_X11_plainStands (d : Nat) (hd : 1 ≤ d) (v1 : Int32) (v2 : Int32) (m : ej_M) {q : (Int32 × ej_M)} (hf : f_X11_plainStands v1 v2 m = some q) : ej_Ct yX11_plainStands cX11_plainStands 3 (some .int) d [.ref 41, .int v1, .int v2] (ej_sh, m) ((some (Value.int q.1), (ej_sh, q.2)) : Option Value × ej_H) := by
  obtain ⟨e, rfl⟩ : ∃ e, d = e + 1 := ⟨d - 1, by omega⟩
  exact z_met (by decide +kernel) (Nat.le_of_ble_eq_true rfl) (b_X11_plainStands e (by omega) v1 v2 m (K := fun z => ((some (Value.int q.1), (ej_sh, q.2)) : Option Value × ej_H) = (some (Value.int z.1), (ej_sh, z.2))) hf rfl (fun _ h => h))
def f_X11_chippedStands (v1 : Int32) (v2 : Int32) (m : ej_M) : Option (Int32 × ej_M) :=
  (f_X11_ran 70 m).bind fun q1 =>
  (f_X11_plainStands v1 v2 q1.2).bind fun q2 =>
  some ((q2.1 * 2), q2.2)
set_option maxHeartbeats 4000000 in
set_option maxRecDepth 100000 in
theorem b_X11_chippedStands (e : Nat) (hd : 1 ≤ e) (v1 : Int32) (v2 : Int32) (m : ej_M) {x : (Int32 × ej_M)} {res : Option Value × ej_H} {K : (Int32 × ej_M) → Prop} (hf : f_X11_chippedStands v1 v2 m = some x) (hK : K x) (h0 : ∀ q : (Int32 × ej_M), K q → res = (some (Value.int q.1), (ej_sh, q.2))) : ej_Z cX11_chippedStands 3 (some .int) RX11 "chippedStands" (e + 1) 0 [(0, .ref 41), (1, .int v1), (2, .int v2)] [] (ej_sh, m) res := by
  unfold f_X11_chippedStands at hf
  refine z_aload_n (pc := 0) (i := 0) (j := 0) dX11_chippedStands_0 rfl rfl ?_
  refine z_bipush (pc := 1) dX11_chippedStands_1 kb_70 ?_
  obtain ⟨q1, hq1, hf⟩ := Option.bind_eq_some_iff.mp hf
  refine z_oVv (pc := 3) (as := [.int 70]) (rest := []) dX11_chippedStands_3 lm_RX11_344 mf_X11_ran mi_X11_ran mv_X11_ran rc_41 rfl rfl (Nat.le_of_ble_eq_true rfl) (c_X11_ran e (by omega) 70 m hq1) ?_
  refine z_aload_n (pc := 6) (i := 0) (j := 0) dX11_chippedStands_6 rfl rfl ?_
  refine z_iload_n (pc := 7) (i := 1) (j := 1) dX11_chippedStands_7 rfl rfl ?_
  refine z_iload_n (pc := 8) (i := 2) (j := 2) dX11_chippedStands_8 rfl rfl ?_
  obtain ⟨q2, hq2, hf⟩ := Option.bind_eq_some_iff.mp hf
  refine z_oVi (pc := 9) (as := [.int v1, .int v2]) (rest := []) dX11_chippedStands_9 lm_RX11_347 mf_X11_plainStands mi_X11_plainStands mv_X11_plainStands rc_41 rfl rfl (Nat.le_of_ble_eq_true rfl) (c_X11_plainStands e (by omega) v1 v2 q1.2 hq2) ?_
  refine z_iconst (pc := 12) dX11_chippedStands_12 ki_2 ?_
  refine z_imul (pc := 13) dX11_chippedStands_13 ?_
  obtain rfl := Option.some.inj hf
  rw [h0 _ hK]
  exact z_iret dX11_chippedStands_14 rfl rfl
set_option maxHeartbeats 4000000 in
set_option maxRecDepth 100000 in
theorem c_X11_chippedStands (d : Nat) (hd : 2 ≤ d) (v1 : Int32) (v2 : Int32) (m : ej_M) {q : (Int32 × ej_M)} (hf : f_X11_chippedStands v1 v2 m = some q) : ej_Ct yX11_chippedStands cX11_chippedStands 3 (some .int) d [.ref 41, .int v1, .int v2] (ej_sh, m) ((some (Value.int q.1), (ej_sh, q.2)) : Option Value × ej_H) := by
  obtain ⟨e, rfl⟩ : ∃ e, d = e + 1 := ⟨d - 1, by omega⟩
  exact z_met (by decide +kernel) (Nat.le_of_ble_eq_true rfl) (b_X11_chippedStands e (by omega) v1 v2 m (K := fun z => ((some (Value.int q.1), (ej_sh, q.2)) : Option Value × ej_H) = (some (Value.int z.1), (ej_sh, z.2))) hf rfl (fun _ h => h))
def f_X11_isUnder_B44 (v0 : Int32) (v1 : Int32) (m : ej_M) : Option (Int32 × ej_M) :=
  if v1 = 6 then
    if v0 = 7 then
      some (1, m)
    else
      some (0, m)
  else
    some (0, m)
set_option maxHeartbeats 4000000 in
set_option maxRecDepth 100000 in
theorem b_X11_isUnder_B44 (d : Nat) (v0 : Int32) (v1 : Int32) (m : ej_M) {x : (Int32 × ej_M)} {res : Option Value × ej_H} {K : (Int32 × ej_M) → Prop} (hf : f_X11_isUnder_B44 v0 v1 m = some x) (hK : K x) (h0 : ∀ q : (Int32 × ej_M), K q → res = (some (Value.int q.1), (ej_sh, q.2))) : ej_Z cX11_isUnder 2 (some .boolean) RX11 "isUnder" d 44 [(0, .int v0), (1, .int v1)] [] (ej_sh, m) res := by
  unfold f_X11_isUnder_B44 at hf
  refine z_iload_n (pc := 44) (i := 1) (j := 1) dX11_isUnder_44 rfl rfl ?_
  refine z_bipush (pc := 45) dX11_isUnder_45 kb_6 ?_
  refine z_icmp_ne (pc := 47) (tgt := 60) dX11_isUnder_47 (by decide) (fun hc => ?_) (fun hc => ?_)
  · rw [if_neg hc] at hf
    refine z_iconst (pc := 60) dX11_isUnder_60 ki_0 ?_
    obtain rfl := Option.some.inj hf
    rw [h0 _ hK]
    exact z_iret dX11_isUnder_61 rfl rfl
  · rw [if_pos hc] at hf
    refine z_iload_n (pc := 50) (i := 0) (j := 0) dX11_isUnder_50 rfl rfl ?_
    refine z_bipush (pc := 51) dX11_isUnder_51 kb_7 ?_
    refine z_icmp_ne (pc := 53) (tgt := 60) dX11_isUnder_53 (by decide) (fun hc => ?_) (fun hc => ?_)
    · rw [if_neg hc] at hf
      refine z_iconst (pc := 60) dX11_isUnder_60 ki_0 ?_
      obtain rfl := Option.some.inj hf
      rw [h0 _ hK]
      exact z_iret dX11_isUnder_61 rfl rfl
    · rw [if_pos hc] at hf
      refine z_iconst (pc := 56) dX11_isUnder_56 ki_1 ?_
      refine z_goto (pc := 57) (tgt := 61) dX11_isUnder_57 (by decide) ?_
      obtain rfl := Option.some.inj hf
      rw [h0 _ hK]
      exact z_iret dX11_isUnder_61 rfl rfl
def f_X11_isUnder_B34 (v0 : Int32) (v1 : Int32) (m : ej_M) : Option (Int32 × ej_M) :=
  if v1 = 3 then
    if v0 = 5 then
      some (1, m)
    else
      f_X11_isUnder_B44 v0 v1 m
  else
    f_X11_isUnder_B44 v0 v1 m
set_option maxHeartbeats 4000000 in
set_option maxRecDepth 100000 in
theorem b_X11_isUnder_B34 (d : Nat) (v0 : Int32) (v1 : Int32) (m : ej_M) {x : (Int32 × ej_M)} {res : Option Value × ej_H} {K : (Int32 × ej_M) → Prop} (hf : f_X11_isUnder_B34 v0 v1 m = some x) (hK : K x) (h0 : ∀ q : (Int32 × ej_M), K q → res = (some (Value.int q.1), (ej_sh, q.2))) : ej_Z cX11_isUnder 2 (some .boolean) RX11 "isUnder" d 34 [(0, .int v0), (1, .int v1)] [] (ej_sh, m) res := by
  unfold f_X11_isUnder_B34 at hf
  refine z_iload_n (pc := 34) (i := 1) (j := 1) dX11_isUnder_34 rfl rfl ?_
  refine z_iconst (pc := 35) dX11_isUnder_35 ki_3 ?_
  refine z_icmp_ne (pc := 36) (tgt := 44) dX11_isUnder_36 (by decide) (fun hc => ?_) (fun hc => ?_)
  · rw [if_neg hc] at hf
    exact z_pick [0, 1] rfl (b_X11_isUnder_B44 d v0 v1 m (K := K) hf hK  h0)
  · rw [if_pos hc] at hf
    refine z_iload_n (pc := 39) (i := 0) (j := 0) dX11_isUnder_39 rfl rfl ?_
    refine z_iconst (pc := 40) dX11_isUnder_40 ki_5 ?_
    refine z_icmp_eq (pc := 41) (tgt := 56) dX11_isUnder_41 (by decide) (fun hc => ?_) (fun hc => ?_)
    · rw [if_pos hc] at hf
      refine z_iconst (pc := 56) dX11_isUnder_56 ki_1 ?_
      refine z_goto (pc := 57) (tgt := 61) dX11_isUnder_57 (by decide) ?_
      obtain rfl := Option.some.inj hf
      rw [h0 _ hK]
      exact z_iret dX11_isUnder_61 rfl rfl
    · rw [if_neg hc] at hf
      exact z_pick [0, 1] rfl (b_X11_isUnder_B44 d v0 v1 m (K := K) hf hK  h0)
def f_X11_isUnder_B19 (v0 : Int32) (v1 : Int32) (m : ej_M) : Option (Int32 × ej_M) :=
  if v1 = 2 then
    if v0 = 3 then
      some (1, m)
    else
      if v0 = 5 then
        some (1, m)
      else
        f_X11_isUnder_B34 v0 v1 m
  else
    f_X11_isUnder_B34 v0 v1 m
set_option maxHeartbeats 4000000 in
set_option maxRecDepth 100000 in
theorem b_X11_isUnder_B19 (d : Nat) (v0 : Int32) (v1 : Int32) (m : ej_M) {x : (Int32 × ej_M)} {res : Option Value × ej_H} {K : (Int32 × ej_M) → Prop} (hf : f_X11_isUnder_B19 v0 v1 m = some x) (hK : K x) (h0 : ∀ q : (Int32 × ej_M), K q → res = (some (Value.int q.1), (ej_sh, q.2))) : ej_Z cX11_isUnder 2 (some .boolean) RX11 "isUnder" d 19 [(0, .int v0), (1, .int v1)] [] (ej_sh, m) res := by
  unfold f_X11_isUnder_B19 at hf
  refine z_iload_n (pc := 19) (i := 1) (j := 1) dX11_isUnder_19 rfl rfl ?_
  refine z_iconst (pc := 20) dX11_isUnder_20 ki_2 ?_
  refine z_icmp_ne (pc := 21) (tgt := 34) dX11_isUnder_21 (by decide) (fun hc => ?_) (fun hc => ?_)
  · rw [if_neg hc] at hf
    exact z_pick [0, 1] rfl (b_X11_isUnder_B34 d v0 v1 m (K := K) hf hK  h0)
  · rw [if_pos hc] at hf
    refine z_iload_n (pc := 24) (i := 0) (j := 0) dX11_isUnder_24 rfl rfl ?_
    refine z_iconst (pc := 25) dX11_isUnder_25 ki_3 ?_
    refine z_icmp_eq (pc := 26) (tgt := 56) dX11_isUnder_26 (by decide) (fun hc => ?_) (fun hc => ?_)
    · rw [if_pos hc] at hf
      refine z_iconst (pc := 56) dX11_isUnder_56 ki_1 ?_
      refine z_goto (pc := 57) (tgt := 61) dX11_isUnder_57 (by decide) ?_
      obtain rfl := Option.some.inj hf
      rw [h0 _ hK]
      exact z_iret dX11_isUnder_61 rfl rfl
    · rw [if_neg hc] at hf
      refine z_iload_n (pc := 29) (i := 0) (j := 0) dX11_isUnder_29 rfl rfl ?_
      refine z_iconst (pc := 30) dX11_isUnder_30 ki_5 ?_
      refine z_icmp_eq (pc := 31) (tgt := 56) dX11_isUnder_31 (by decide) (fun hc => ?_) (fun hc => ?_)
      · rw [if_pos hc] at hf
        refine z_iconst (pc := 56) dX11_isUnder_56 ki_1 ?_
        refine z_goto (pc := 57) (tgt := 61) dX11_isUnder_57 (by decide) ?_
        obtain rfl := Option.some.inj hf
        rw [h0 _ hK]
        exact z_iret dX11_isUnder_61 rfl rfl
      · rw [if_neg hc] at hf
        exact z_pick [0, 1] rfl (b_X11_isUnder_B34 d v0 v1 m (K := K) hf hK  h0)
def f_X11_isUnder (v0 : Int32) (v1 : Int32) (m : ej_M) : Option (Int32 × ej_M) :=
  if v1 = 0 then
    some (1, m)
  else
    if v0 = v1 then
      some (1, m)
    else
      if v1 = 1 then
        if v0 = 4 then
          some (1, m)
        else
          f_X11_isUnder_B19 v0 v1 m
      else
        f_X11_isUnder_B19 v0 v1 m
set_option maxHeartbeats 4000000 in
set_option maxRecDepth 100000 in
theorem b_X11_isUnder (d : Nat) (v0 : Int32) (v1 : Int32) (m : ej_M) {x : (Int32 × ej_M)} {res : Option Value × ej_H} {K : (Int32 × ej_M) → Prop} (hf : f_X11_isUnder v0 v1 m = some x) (hK : K x) (h0 : ∀ q : (Int32 × ej_M), K q → res = (some (Value.int q.1), (ej_sh, q.2))) : ej_Z cX11_isUnder 2 (some .boolean) RX11 "isUnder" d 0 [(0, .int v0), (1, .int v1)] [] (ej_sh, m) res := by
  unfold f_X11_isUnder at hf
  refine z_iload_n (pc := 0) (i := 1) (j := 1) dX11_isUnder_0 rfl rfl ?_
  refine z_if_eq (pc := 1) (tgt := 56) dX11_isUnder_1 (by decide) (fun hc => ?_) (fun hc => ?_)
  · rw [if_pos hc] at hf
    refine z_iconst (pc := 56) dX11_isUnder_56 ki_1 ?_
    refine z_goto (pc := 57) (tgt := 61) dX11_isUnder_57 (by decide) ?_
    obtain rfl := Option.some.inj hf
    rw [h0 _ hK]
    exact z_iret dX11_isUnder_61 rfl rfl
  · rw [if_neg hc] at hf
    refine z_iload_n (pc := 4) (i := 0) (j := 0) dX11_isUnder_4 rfl rfl ?_
    refine z_iload_n (pc := 5) (i := 1) (j := 1) dX11_isUnder_5 rfl rfl ?_
    refine z_icmp_eq (pc := 6) (tgt := 56) dX11_isUnder_6 (by decide) (fun hc => ?_) (fun hc => ?_)
    · rw [if_pos hc] at hf
      refine z_iconst (pc := 56) dX11_isUnder_56 ki_1 ?_
      refine z_goto (pc := 57) (tgt := 61) dX11_isUnder_57 (by decide) ?_
      obtain rfl := Option.some.inj hf
      rw [h0 _ hK]
      exact z_iret dX11_isUnder_61 rfl rfl
    · rw [if_neg hc] at hf
      refine z_iload_n (pc := 9) (i := 1) (j := 1) dX11_isUnder_9 rfl rfl ?_
      refine z_iconst (pc := 10) dX11_isUnder_10 ki_1 ?_
      refine z_icmp_ne (pc := 11) (tgt := 19) dX11_isUnder_11 (by decide) (fun hc => ?_) (fun hc => ?_)
      · rw [if_neg hc] at hf
        exact z_pick [0, 1] rfl (b_X11_isUnder_B19 d v0 v1 m (K := K) hf hK  h0)
      · rw [if_pos hc] at hf
        refine z_iload_n (pc := 14) (i := 0) (j := 0) dX11_isUnder_14 rfl rfl ?_
        refine z_iconst (pc := 15) dX11_isUnder_15 ki_4 ?_
        refine z_icmp_eq (pc := 16) (tgt := 56) dX11_isUnder_16 (by decide) (fun hc => ?_) (fun hc => ?_)
        · rw [if_pos hc] at hf
          refine z_iconst (pc := 56) dX11_isUnder_56 ki_1 ?_
          refine z_goto (pc := 57) (tgt := 61) dX11_isUnder_57 (by decide) ?_
          obtain rfl := Option.some.inj hf
          rw [h0 _ hK]
          exact z_iret dX11_isUnder_61 rfl rfl
        · rw [if_neg hc] at hf
          exact z_pick [0, 1] rfl (b_X11_isUnder_B19 d v0 v1 m (K := K) hf hK  h0)
set_option maxHeartbeats 4000000 in
set_option maxRecDepth 100000 in
theorem c_X11_isUnder (d : Nat) (hd : 0 ≤ d) (v0 : Int32) (v1 : Int32) (m : ej_M) {q : (Int32 × ej_M)} (hf : f_X11_isUnder v0 v1 m = some q) : ej_Ct yX11_isUnder cX11_isUnder 2 (some .boolean) d [.int v0, .int v1] (ej_sh, m) ((some (Value.int q.1), (ej_sh, q.2)) : Option Value × ej_H) := by
  exact z_met (by decide +kernel) (Nat.le_of_ble_eq_true rfl) (b_X11_isUnder d v0 v1 m (K := fun z => ((some (Value.int q.1), (ej_sh, q.2)) : Option Value × ej_H) = (some (Value.int z.1), (ej_sh, z.2))) hf rfl (fun _ h => h))
def f_X11_standsOf (v1 : Int32) (v2 : Int32) (m : ej_M) : Option (Int32 × ej_M) :=
  (oj_ld 0 m 64 v1).bind fun w1 =>
  (f_X11_isUnder w1 1 m).bind fun q2 =>
  if q2.1 = 0 then
    (oj_ld 0 q2.2 64 v1).bind fun w3 =>
    if w3 = 7 then
      (f_X11_ran 81 q2.2).bind fun q7 =>
      (f_X11_chippedStands v1 v2 q7.2).bind fun q8 =>
      some ((q8.1 - 1), q8.2)
    else
      (oj_ld 0 q2.2 64 v1).bind fun w4 =>
      if w4 = 6 then
        (f_X11_chippedStands v1 v2 q2.2).bind fun q6 =>
        some (q6.1, q6.2)
      else
        (f_X11_plainStands v1 v2 q2.2).bind fun q5 =>
        some (q5.1, q5.2)
  else
    (f_X11_ran 20 q2.2).bind fun q9 =>
    (f_X11_plainStands v1 v2 q9.2).bind fun q10 =>
    some ((q10.1 + 3), q10.2)
set_option maxHeartbeats 4000000 in
set_option maxRecDepth 100000 in
theorem b_X11_standsOf (e : Nat) (hd : 2 ≤ e) (v1 : Int32) (v2 : Int32) (m : ej_M) {x : (Int32 × ej_M)} {res : Option Value × ej_H} {K : (Int32 × ej_M) → Prop} (hf : f_X11_standsOf v1 v2 m = some x) (hK : K x) (h0 : ∀ q : (Int32 × ej_M), K q → res = (some (Value.int q.1), (ej_sh, q.2))) : ej_Z cX11_standsOf 3 (some .int) RX11 "standsOf" (e + 1) 0 [(0, .ref 41), (1, .int v1), (2, .int v2)] [] (ej_sh, m) res := by
  unfold f_X11_standsOf at hf
  refine z_aload_n (pc := 0) (i := 0) (j := 0) dX11_standsOf_0 rfl rfl ?_
  refine z_ogetR (pc := 1) dX11_standsOf_1 lf_RX11_78 sh_41 rfl rfl rfl ?_
  refine z_iload_n (pc := 4) (i := 1) (j := 1) dX11_standsOf_4 rfl rfl ?_
  obtain ⟨w1, hw1, hf⟩ := Option.bind_eq_some_iff.mp hf
  refine z_oiald (pc := 5) dX11_standsOf_5 hw1 ?_
  refine z_iconst (pc := 6) dX11_standsOf_6 ki_1 ?_
  obtain ⟨q2, hq2, hf⟩ := Option.bind_eq_some_iff.mp hf
  refine z_oSi (pc := 7) (as := [.int w1, .int 1]) (rest := []) dX11_standsOf_7 lm_RX11_350 mf_X11_isUnder ms_X11_isUnder rfl rfl (Nat.le_of_ble_eq_true rfl) (c_X11_isUnder e (by omega) w1 1 m hq2) ?_
  refine z_if_eq (pc := 10) (tgt := 28) dX11_standsOf_10 (by decide) (fun hc => ?_) (fun hc => ?_)
  · rw [if_pos hc] at hf
    refine z_aload_n (pc := 28) (i := 0) (j := 0) dX11_standsOf_28 rfl rfl ?_
    refine z_ogetR (pc := 29) dX11_standsOf_29 lf_RX11_78 sh_41 rfl rfl rfl ?_
    refine z_iload_n (pc := 32) (i := 1) (j := 1) dX11_standsOf_32 rfl rfl ?_
    obtain ⟨w3, hw3, hf⟩ := Option.bind_eq_some_iff.mp hf
    refine z_oiald (pc := 33) dX11_standsOf_33 hw3 ?_
    refine z_bipush (pc := 34) dX11_standsOf_34 kb_7 ?_
    refine z_icmp_ne (pc := 36) (tgt := 54) dX11_standsOf_36 (by decide) (fun hc => ?_) (fun hc => ?_)
    · rw [if_neg hc] at hf
      refine z_aload_n (pc := 54) (i := 0) (j := 0) dX11_standsOf_54 rfl rfl ?_
      refine z_ogetR (pc := 55) dX11_standsOf_55 lf_RX11_78 sh_41 rfl rfl rfl ?_
      refine z_iload_n (pc := 58) (i := 1) (j := 1) dX11_standsOf_58 rfl rfl ?_
      obtain ⟨w4, hw4, hf⟩ := Option.bind_eq_some_iff.mp hf
      refine z_oiald (pc := 59) dX11_standsOf_59 hw4 ?_
      refine z_bipush (pc := 60) dX11_standsOf_60 kb_6 ?_
      refine z_icmp_ne (pc := 62) (tgt := 74) dX11_standsOf_62 (by decide) (fun hc => ?_) (fun hc => ?_)
      · rw [if_neg hc] at hf
        refine z_aload_n (pc := 74) (i := 0) (j := 0) dX11_standsOf_74 rfl rfl ?_
        refine z_iload_n (pc := 75) (i := 1) (j := 1) dX11_standsOf_75 rfl rfl ?_
        refine z_iload_n (pc := 76) (i := 2) (j := 2) dX11_standsOf_76 rfl rfl ?_
        obtain ⟨q5, hq5, hf⟩ := Option.bind_eq_some_iff.mp hf
        refine z_oVi (pc := 77) (as := [.int v1, .int v2]) (rest := []) dX11_standsOf_77 lm_RX11_347 mf_X11_plainStands mi_X11_plainStands mv_X11_plainStands rc_41 rfl rfl (Nat.le_of_ble_eq_true rfl) (c_X11_plainStands e (by omega) v1 v2 q2.2 hq5) ?_
        obtain rfl := Option.some.inj hf
        rw [h0 _ hK]
        exact z_iret dX11_standsOf_80 rfl rfl
      · rw [if_pos hc] at hf
        refine z_aload_n (pc := 65) (i := 0) (j := 0) dX11_standsOf_65 rfl rfl ?_
        refine z_iload_n (pc := 66) (i := 1) (j := 1) dX11_standsOf_66 rfl rfl ?_
        refine z_iload_n (pc := 67) (i := 2) (j := 2) dX11_standsOf_67 rfl rfl ?_
        obtain ⟨q6, hq6, hf⟩ := Option.bind_eq_some_iff.mp hf
        refine z_oVi (pc := 68) (as := [.int v1, .int v2]) (rest := []) dX11_standsOf_68 lm_RX11_353 mf_X11_chippedStands mi_X11_chippedStands mv_X11_chippedStands rc_41 rfl rfl (Nat.le_of_ble_eq_true rfl) (c_X11_chippedStands e (by omega) v1 v2 q2.2 hq6) ?_
        refine z_goto (pc := 71) (tgt := 80) dX11_standsOf_71 (by decide) ?_
        obtain rfl := Option.some.inj hf
        rw [h0 _ hK]
        exact z_iret dX11_standsOf_80 rfl rfl
    · rw [if_pos hc] at hf
      refine z_aload_n (pc := 39) (i := 0) (j := 0) dX11_standsOf_39 rfl rfl ?_
      refine z_bipush (pc := 40) dX11_standsOf_40 kb_81 ?_
      obtain ⟨q7, hq7, hf⟩ := Option.bind_eq_some_iff.mp hf
      refine z_oVv (pc := 42) (as := [.int 81]) (rest := []) dX11_standsOf_42 lm_RX11_344 mf_X11_ran mi_X11_ran mv_X11_ran rc_41 rfl rfl (Nat.le_of_ble_eq_true rfl) (c_X11_ran e (by omega) 81 q2.2 hq7) ?_
      refine z_aload_n (pc := 45) (i := 0) (j := 0) dX11_standsOf_45 rfl rfl ?_
      refine z_iload_n (pc := 46) (i := 1) (j := 1) dX11_standsOf_46 rfl rfl ?_
      refine z_iload_n (pc := 47) (i := 2) (j := 2) dX11_standsOf_47 rfl rfl ?_
      obtain ⟨q8, hq8, hf⟩ := Option.bind_eq_some_iff.mp hf
      refine z_oVi (pc := 48) (as := [.int v1, .int v2]) (rest := []) dX11_standsOf_48 lm_RX11_353 mf_X11_chippedStands mi_X11_chippedStands mv_X11_chippedStands rc_41 rfl rfl (Nat.le_of_ble_eq_true rfl) (c_X11_chippedStands e (by omega) v1 v2 q7.2 hq8) ?_
      refine z_iconst (pc := 51) dX11_standsOf_51 ki_1 ?_
      refine z_isub (pc := 52) dX11_standsOf_52 ?_
      obtain rfl := Option.some.inj hf
      rw [h0 _ hK]
      exact z_iret dX11_standsOf_53 rfl rfl
  · rw [if_neg hc] at hf
    refine z_aload_n (pc := 13) (i := 0) (j := 0) dX11_standsOf_13 rfl rfl ?_
    refine z_bipush (pc := 14) dX11_standsOf_14 kb_20 ?_
    obtain ⟨q9, hq9, hf⟩ := Option.bind_eq_some_iff.mp hf
    refine z_oVv (pc := 16) (as := [.int 20]) (rest := []) dX11_standsOf_16 lm_RX11_344 mf_X11_ran mi_X11_ran mv_X11_ran rc_41 rfl rfl (Nat.le_of_ble_eq_true rfl) (c_X11_ran e (by omega) 20 q2.2 hq9) ?_
    refine z_aload_n (pc := 19) (i := 0) (j := 0) dX11_standsOf_19 rfl rfl ?_
    refine z_iload_n (pc := 20) (i := 1) (j := 1) dX11_standsOf_20 rfl rfl ?_
    refine z_iload_n (pc := 21) (i := 2) (j := 2) dX11_standsOf_21 rfl rfl ?_
    obtain ⟨q10, hq10, hf⟩ := Option.bind_eq_some_iff.mp hf
    refine z_oVi (pc := 22) (as := [.int v1, .int v2]) (rest := []) dX11_standsOf_22 lm_RX11_347 mf_X11_plainStands mi_X11_plainStands mv_X11_plainStands rc_41 rfl rfl (Nat.le_of_ble_eq_true rfl) (c_X11_plainStands e (by omega) v1 v2 q9.2 hq10) ?_
    refine z_iconst (pc := 25) dX11_standsOf_25 ki_3 ?_
    refine z_iadd (pc := 26) dX11_standsOf_26 ?_
    obtain rfl := Option.some.inj hf
    rw [h0 _ hK]
    exact z_iret dX11_standsOf_27 rfl rfl
set_option maxHeartbeats 4000000 in
set_option maxRecDepth 100000 in
theorem c_X11_standsOf (d : Nat) (hd : 3 ≤ d) (v1 : Int32) (v2 : Int32) (m : ej_M) {q : (Int32 × ej_M)} (hf : f_X11_standsOf v1 v2 m = some q) : ej_Ct yX11_standsOf cX11_standsOf 3 (some .int) d [.ref 41, .int v1, .int v2] (ej_sh, m) ((some (Value.int q.1), (ej_sh, q.2)) : Option Value × ej_H) := by
  obtain ⟨e, rfl⟩ : ∃ e, d = e + 1 := ⟨d - 1, by omega⟩
  exact z_met (by decide +kernel) (Nat.le_of_ble_eq_true rfl) (b_X11_standsOf e (by omega) v1 v2 m (K := fun z => ((some (Value.int q.1), (ej_sh, q.2)) : Option Value × ej_H) = (some (Value.int z.1), (ej_sh, z.2))) hf rfl (fun _ h => h))
def f_X11_plainHolds (v1 : Int32) (v2 : Int32) (m : ej_M) : Option (Int32 × ej_M) :=
  (f_X11_ran 10 m).bind fun q1 =>
  (f_X11_standsOf v1 v2 q1.2).bind fun q2 =>
  some ((q2.1 * 2), q2.2)
set_option maxHeartbeats 4000000 in
set_option maxRecDepth 100000 in
theorem b_X11_plainHolds (e : Nat) (hd : 3 ≤ e) (v1 : Int32) (v2 : Int32) (m : ej_M) {x : (Int32 × ej_M)} {res : Option Value × ej_H} {K : (Int32 × ej_M) → Prop} (hf : f_X11_plainHolds v1 v2 m = some x) (hK : K x) (h0 : ∀ q : (Int32 × ej_M), K q → res = (some (Value.int q.1), (ej_sh, q.2))) : ej_Z cX11_plainHolds 3 (some .int) RX11 "plainHolds" (e + 1) 0 [(0, .ref 41), (1, .int v1), (2, .int v2)] [] (ej_sh, m) res := by
  unfold f_X11_plainHolds at hf
  refine z_aload_n (pc := 0) (i := 0) (j := 0) dX11_plainHolds_0 rfl rfl ?_
  refine z_bipush (pc := 1) dX11_plainHolds_1 kb_10 ?_
  obtain ⟨q1, hq1, hf⟩ := Option.bind_eq_some_iff.mp hf
  refine z_oVv (pc := 3) (as := [.int 10]) (rest := []) dX11_plainHolds_3 lm_RX11_344 mf_X11_ran mi_X11_ran mv_X11_ran rc_41 rfl rfl (Nat.le_of_ble_eq_true rfl) (c_X11_ran e (by omega) 10 m hq1) ?_
  refine z_aload_n (pc := 6) (i := 0) (j := 0) dX11_plainHolds_6 rfl rfl ?_
  refine z_iload_n (pc := 7) (i := 1) (j := 1) dX11_plainHolds_7 rfl rfl ?_
  refine z_iload_n (pc := 8) (i := 2) (j := 2) dX11_plainHolds_8 rfl rfl ?_
  obtain ⟨q2, hq2, hf⟩ := Option.bind_eq_some_iff.mp hf
  refine z_oVi (pc := 9) (as := [.int v1, .int v2]) (rest := []) dX11_plainHolds_9 lm_RX11_356 mf_X11_standsOf mi_X11_standsOf mv_X11_standsOf rc_41 rfl rfl (Nat.le_of_ble_eq_true rfl) (c_X11_standsOf e (by omega) v1 v2 q1.2 hq2) ?_
  refine z_iconst (pc := 12) dX11_plainHolds_12 ki_2 ?_
  refine z_imul (pc := 13) dX11_plainHolds_13 ?_
  obtain rfl := Option.some.inj hf
  rw [h0 _ hK]
  exact z_iret dX11_plainHolds_14 rfl rfl
set_option maxHeartbeats 4000000 in
set_option maxRecDepth 100000 in
theorem c_X11_plainHolds (d : Nat) (hd : 4 ≤ d) (v1 : Int32) (v2 : Int32) (m : ej_M) {q : (Int32 × ej_M)} (hf : f_X11_plainHolds v1 v2 m = some q) : ej_Ct yX11_plainHolds cX11_plainHolds 3 (some .int) d [.ref 41, .int v1, .int v2] (ej_sh, m) ((some (Value.int q.1), (ej_sh, q.2)) : Option Value × ej_H) := by
  obtain ⟨e, rfl⟩ : ∃ e, d = e + 1 := ⟨d - 1, by omega⟩
  exact z_met (by decide +kernel) (Nat.le_of_ble_eq_true rfl) (b_X11_plainHolds e (by omega) v1 v2 m (K := fun z => ((some (Value.int q.1), (ej_sh, q.2)) : Option Value × ej_H) = (some (Value.int z.1), (ej_sh, z.2))) hf rfl (fun _ h => h))
def f_X11_heldHolds (v1 : Int32) (v2 : Int32) (m : ej_M) : Option (Int32 × ej_M) :=
  (f_X11_ran 30 m).bind fun q1 =>
  (f_X11_plainHolds v1 v2 q1.2).bind fun q2 =>
  some ((-q2.1), q2.2)
set_option maxHeartbeats 4000000 in
set_option maxRecDepth 100000 in
theorem b_X11_heldHolds (e : Nat) (hd : 4 ≤ e) (v1 : Int32) (v2 : Int32) (m : ej_M) {x : (Int32 × ej_M)} {res : Option Value × ej_H} {K : (Int32 × ej_M) → Prop} (hf : f_X11_heldHolds v1 v2 m = some x) (hK : K x) (h0 : ∀ q : (Int32 × ej_M), K q → res = (some (Value.int q.1), (ej_sh, q.2))) : ej_Z cX11_heldHolds 3 (some .int) RX11 "heldHolds" (e + 1) 0 [(0, .ref 41), (1, .int v1), (2, .int v2)] [] (ej_sh, m) res := by
  unfold f_X11_heldHolds at hf
  refine z_aload_n (pc := 0) (i := 0) (j := 0) dX11_heldHolds_0 rfl rfl ?_
  refine z_bipush (pc := 1) dX11_heldHolds_1 kb_30 ?_
  obtain ⟨q1, hq1, hf⟩ := Option.bind_eq_some_iff.mp hf
  refine z_oVv (pc := 3) (as := [.int 30]) (rest := []) dX11_heldHolds_3 lm_RX11_344 mf_X11_ran mi_X11_ran mv_X11_ran rc_41 rfl rfl (Nat.le_of_ble_eq_true rfl) (c_X11_ran e (by omega) 30 m hq1) ?_
  refine z_aload_n (pc := 6) (i := 0) (j := 0) dX11_heldHolds_6 rfl rfl ?_
  refine z_iload_n (pc := 7) (i := 1) (j := 1) dX11_heldHolds_7 rfl rfl ?_
  refine z_iload_n (pc := 8) (i := 2) (j := 2) dX11_heldHolds_8 rfl rfl ?_
  obtain ⟨q2, hq2, hf⟩ := Option.bind_eq_some_iff.mp hf
  refine z_oVi (pc := 9) (as := [.int v1, .int v2]) (rest := []) dX11_heldHolds_9 lm_RX11_359 mf_X11_plainHolds mi_X11_plainHolds mv_X11_plainHolds rc_41 rfl rfl (Nat.le_of_ble_eq_true rfl) (c_X11_plainHolds e (by omega) v1 v2 q1.2 hq2) ?_
  refine z_ineg (pc := 12) dX11_heldHolds_12 ?_
  obtain rfl := Option.some.inj hf
  rw [h0 _ hK]
  exact z_iret dX11_heldHolds_13 rfl rfl
set_option maxHeartbeats 4000000 in
set_option maxRecDepth 100000 in
theorem c_X11_heldHolds (d : Nat) (hd : 5 ≤ d) (v1 : Int32) (v2 : Int32) (m : ej_M) {q : (Int32 × ej_M)} (hf : f_X11_heldHolds v1 v2 m = some q) : ej_Ct yX11_heldHolds cX11_heldHolds 3 (some .int) d [.ref 41, .int v1, .int v2] (ej_sh, m) ((some (Value.int q.1), (ej_sh, q.2)) : Option Value × ej_H) := by
  obtain ⟨e, rfl⟩ : ∃ e, d = e + 1 := ⟨d - 1, by omega⟩
  exact z_met (by decide +kernel) (Nat.le_of_ble_eq_true rfl) (b_X11_heldHolds e (by omega) v1 v2 m (K := fun z => ((some (Value.int q.1), (ej_sh, q.2)) : Option Value × ej_H) = (some (Value.int z.1), (ej_sh, z.2))) hf rfl (fun _ h => h))
def f_X11_plainSets (v1 : Int32) (v2 : Int32) (m : ej_M) : Option (Int32 × ej_M) :=
  (f_X11_ran 11 m).bind fun q1 =>
  some ((v2 ^^^ v1), q1.2)
set_option maxHeartbeats 4000000 in
set_option maxRecDepth 100000 in
theorem b_X11_plainSets (e : Nat) (hd : 0 ≤ e) (v1 : Int32) (v2 : Int32) (m : ej_M) {x : (Int32 × ej_M)} {res : Option Value × ej_H} {K : (Int32 × ej_M) → Prop} (hf : f_X11_plainSets v1 v2 m = some x) (hK : K x) (h0 : ∀ q : (Int32 × ej_M), K q → res = (some (Value.int q.1), (ej_sh, q.2))) : ej_Z cX11_plainSets 3 (some .int) RX11 "plainSets" (e + 1) 0 [(0, .ref 41), (1, .int v1), (2, .int v2)] [] (ej_sh, m) res := by
  unfold f_X11_plainSets at hf
  refine z_aload_n (pc := 0) (i := 0) (j := 0) dX11_plainSets_0 rfl rfl ?_
  refine z_bipush (pc := 1) dX11_plainSets_1 kb_11 ?_
  obtain ⟨q1, hq1, hf⟩ := Option.bind_eq_some_iff.mp hf
  refine z_oVv (pc := 3) (as := [.int 11]) (rest := []) dX11_plainSets_3 lm_RX11_344 mf_X11_ran mi_X11_ran mv_X11_ran rc_41 rfl rfl (Nat.le_of_ble_eq_true rfl) (c_X11_ran e (by omega) 11 m hq1) ?_
  refine z_iload_n (pc := 6) (i := 2) (j := 2) dX11_plainSets_6 rfl rfl ?_
  refine z_iload_n (pc := 7) (i := 1) (j := 1) dX11_plainSets_7 rfl rfl ?_
  refine z_ixor (pc := 8) dX11_plainSets_8 ?_
  obtain rfl := Option.some.inj hf
  rw [h0 _ hK]
  exact z_iret dX11_plainSets_9 rfl rfl
set_option maxHeartbeats 4000000 in
set_option maxRecDepth 100000 in
theorem c_X11_plainSets (d : Nat) (hd : 1 ≤ d) (v1 : Int32) (v2 : Int32) (m : ej_M) {q : (Int32 × ej_M)} (hf : f_X11_plainSets v1 v2 m = some q) : ej_Ct yX11_plainSets cX11_plainSets 3 (some .int) d [.ref 41, .int v1, .int v2] (ej_sh, m) ((some (Value.int q.1), (ej_sh, q.2)) : Option Value × ej_H) := by
  obtain ⟨e, rfl⟩ : ∃ e, d = e + 1 := ⟨d - 1, by omega⟩
  exact z_met (by decide +kernel) (Nat.le_of_ble_eq_true rfl) (b_X11_plainSets e (by omega) v1 v2 m (K := fun z => ((some (Value.int q.1), (ej_sh, q.2)) : Option Value × ej_H) = (some (Value.int z.1), (ej_sh, z.2))) hf rfl (fun _ h => h))
def f_X11_holdingSets (v1 : Int32) (v2 : Int32) (m : ej_M) : Option (Int32 × ej_M) :=
  (f_X11_ran 40 m).bind fun q1 =>
  (f_X11_plainSets v1 v2 q1.2).bind fun q2 =>
  some ((q2.1 * 3), q2.2)
set_option maxHeartbeats 4000000 in
set_option maxRecDepth 100000 in
theorem b_X11_holdingSets (e : Nat) (hd : 1 ≤ e) (v1 : Int32) (v2 : Int32) (m : ej_M) {x : (Int32 × ej_M)} {res : Option Value × ej_H} {K : (Int32 × ej_M) → Prop} (hf : f_X11_holdingSets v1 v2 m = some x) (hK : K x) (h0 : ∀ q : (Int32 × ej_M), K q → res = (some (Value.int q.1), (ej_sh, q.2))) : ej_Z cX11_holdingSets 3 (some .int) RX11 "holdingSets" (e + 1) 0 [(0, .ref 41), (1, .int v1), (2, .int v2)] [] (ej_sh, m) res := by
  unfold f_X11_holdingSets at hf
  refine z_aload_n (pc := 0) (i := 0) (j := 0) dX11_holdingSets_0 rfl rfl ?_
  refine z_bipush (pc := 1) dX11_holdingSets_1 kb_40 ?_
  obtain ⟨q1, hq1, hf⟩ := Option.bind_eq_some_iff.mp hf
  refine z_oVv (pc := 3) (as := [.int 40]) (rest := []) dX11_holdingSets_3 lm_RX11_344 mf_X11_ran mi_X11_ran mv_X11_ran rc_41 rfl rfl (Nat.le_of_ble_eq_true rfl) (c_X11_ran e (by omega) 40 m hq1) ?_
  refine z_aload_n (pc := 6) (i := 0) (j := 0) dX11_holdingSets_6 rfl rfl ?_
  refine z_iload_n (pc := 7) (i := 1) (j := 1) dX11_holdingSets_7 rfl rfl ?_
  refine z_iload_n (pc := 8) (i := 2) (j := 2) dX11_holdingSets_8 rfl rfl ?_
  obtain ⟨q2, hq2, hf⟩ := Option.bind_eq_some_iff.mp hf
  refine z_oVi (pc := 9) (as := [.int v1, .int v2]) (rest := []) dX11_holdingSets_9 lm_RX11_368 mf_X11_plainSets mi_X11_plainSets mv_X11_plainSets rc_41 rfl rfl (Nat.le_of_ble_eq_true rfl) (c_X11_plainSets e (by omega) v1 v2 q1.2 hq2) ?_
  refine z_iconst (pc := 12) dX11_holdingSets_12 ki_3 ?_
  refine z_imul (pc := 13) dX11_holdingSets_13 ?_
  obtain rfl := Option.some.inj hf
  rw [h0 _ hK]
  exact z_iret dX11_holdingSets_14 rfl rfl
set_option maxHeartbeats 4000000 in
set_option maxRecDepth 100000 in
theorem c_X11_holdingSets (d : Nat) (hd : 2 ≤ d) (v1 : Int32) (v2 : Int32) (m : ej_M) {q : (Int32 × ej_M)} (hf : f_X11_holdingSets v1 v2 m = some q) : ej_Ct yX11_holdingSets cX11_holdingSets 3 (some .int) d [.ref 41, .int v1, .int v2] (ej_sh, m) ((some (Value.int q.1), (ej_sh, q.2)) : Option Value × ej_H) := by
  obtain ⟨e, rfl⟩ : ∃ e, d = e + 1 := ⟨d - 1, by omega⟩
  exact z_met (by decide +kernel) (Nat.le_of_ble_eq_true rfl) (b_X11_holdingSets e (by omega) v1 v2 m (K := fun z => ((some (Value.int q.1), (ej_sh, q.2)) : Option Value × ej_H) = (some (Value.int z.1), (ej_sh, z.2))) hf rfl (fun _ h => h))
def f_X11_setting (v1 : Int32) (v2 : Int32) (m : ej_M) : Option (Int32 × ej_M) :=
  (oj_ld 0 m 64 v1).bind fun w1 =>
  if w1 = 5 then
    (f_X11_ran 60 m).bind fun q5 =>
    (f_X11_holdingSets v1 v2 q5.2).bind fun q6 =>
    (f_X11_standsOf v1 2 q6.2).bind fun q7 =>
    some ((q6.1 - q7.1), q7.2)
  else
    (oj_ld 0 m 64 v1).bind fun w2 =>
    if w2 = 3 then
      (f_X11_holdingSets v1 v2 m).bind fun q4 =>
      some (q4.1, q4.2)
    else
      (f_X11_plainSets v1 v2 m).bind fun q3 =>
      some (q3.1, q3.2)
set_option maxHeartbeats 4000000 in
set_option maxRecDepth 100000 in
theorem b_X11_setting (e : Nat) (hd : 3 ≤ e) (v1 : Int32) (v2 : Int32) (m : ej_M) {x : (Int32 × ej_M)} {res : Option Value × ej_H} {K : (Int32 × ej_M) → Prop} (hf : f_X11_setting v1 v2 m = some x) (hK : K x) (h0 : ∀ q : (Int32 × ej_M), K q → res = (some (Value.int q.1), (ej_sh, q.2))) : ej_Z cX11_setting 4 (some .int) RX11 "setting" (e + 1) 0 [(0, .ref 41), (1, .int v1), (2, .int v2)] [] (ej_sh, m) res := by
  unfold f_X11_setting at hf
  refine z_aload_n (pc := 0) (i := 0) (j := 0) dX11_setting_0 rfl rfl ?_
  refine z_ogetR (pc := 1) dX11_setting_1 lf_RX11_78 sh_41 rfl rfl rfl ?_
  refine z_iload_n (pc := 4) (i := 1) (j := 1) dX11_setting_4 rfl rfl ?_
  obtain ⟨w1, hw1, hf⟩ := Option.bind_eq_some_iff.mp hf
  refine z_oiald (pc := 5) dX11_setting_5 hw1 ?_
  refine z_iconst (pc := 6) dX11_setting_6 ki_5 ?_
  refine z_icmp_ne (pc := 7) (tgt := 32) dX11_setting_7 (by decide) (fun hc => ?_) (fun hc => ?_)
  · rw [if_neg hc] at hf
    refine z_aload_n (pc := 32) (i := 0) (j := 0) dX11_setting_32 rfl rfl ?_
    refine z_ogetR (pc := 33) dX11_setting_33 lf_RX11_78 sh_41 rfl rfl rfl ?_
    refine z_iload_n (pc := 36) (i := 1) (j := 1) dX11_setting_36 rfl rfl ?_
    obtain ⟨w2, hw2, hf⟩ := Option.bind_eq_some_iff.mp hf
    refine z_oiald (pc := 37) dX11_setting_37 hw2 ?_
    refine z_iconst (pc := 38) dX11_setting_38 ki_3 ?_
    refine z_icmp_ne (pc := 39) (tgt := 51) dX11_setting_39 (by decide) (fun hc => ?_) (fun hc => ?_)
    · rw [if_neg hc] at hf
      refine z_aload_n (pc := 51) (i := 0) (j := 0) dX11_setting_51 rfl rfl ?_
      refine z_iload_n (pc := 52) (i := 1) (j := 1) dX11_setting_52 rfl rfl ?_
      refine z_iload_n (pc := 53) (i := 2) (j := 2) dX11_setting_53 rfl rfl ?_
      obtain ⟨q3, hq3, hf⟩ := Option.bind_eq_some_iff.mp hf
      refine z_oVi (pc := 54) (as := [.int v1, .int v2]) (rest := []) dX11_setting_54 lm_RX11_368 mf_X11_plainSets mi_X11_plainSets mv_X11_plainSets rc_41 rfl rfl (Nat.le_of_ble_eq_true rfl) (c_X11_plainSets e (by omega) v1 v2 m hq3) ?_
      obtain rfl := Option.some.inj hf
      rw [h0 _ hK]
      exact z_iret dX11_setting_57 rfl rfl
    · rw [if_pos hc] at hf
      refine z_aload_n (pc := 42) (i := 0) (j := 0) dX11_setting_42 rfl rfl ?_
      refine z_iload_n (pc := 43) (i := 1) (j := 1) dX11_setting_43 rfl rfl ?_
      refine z_iload_n (pc := 44) (i := 2) (j := 2) dX11_setting_44 rfl rfl ?_
      obtain ⟨q4, hq4, hf⟩ := Option.bind_eq_some_iff.mp hf
      refine z_oVi (pc := 45) (as := [.int v1, .int v2]) (rest := []) dX11_setting_45 lm_RX11_371 mf_X11_holdingSets mi_X11_holdingSets mv_X11_holdingSets rc_41 rfl rfl (Nat.le_of_ble_eq_true rfl) (c_X11_holdingSets e (by omega) v1 v2 m hq4) ?_
      refine z_goto (pc := 48) (tgt := 57) dX11_setting_48 (by decide) ?_
      obtain rfl := Option.some.inj hf
      rw [h0 _ hK]
      exact z_iret dX11_setting_57 rfl rfl
  · rw [if_pos hc] at hf
    refine z_aload_n (pc := 10) (i := 0) (j := 0) dX11_setting_10 rfl rfl ?_
    refine z_bipush (pc := 11) dX11_setting_11 kb_60 ?_
    obtain ⟨q5, hq5, hf⟩ := Option.bind_eq_some_iff.mp hf
    refine z_oVv (pc := 13) (as := [.int 60]) (rest := []) dX11_setting_13 lm_RX11_344 mf_X11_ran mi_X11_ran mv_X11_ran rc_41 rfl rfl (Nat.le_of_ble_eq_true rfl) (c_X11_ran e (by omega) 60 m hq5) ?_
    refine z_aload_n (pc := 16) (i := 0) (j := 0) dX11_setting_16 rfl rfl ?_
    refine z_iload_n (pc := 17) (i := 1) (j := 1) dX11_setting_17 rfl rfl ?_
    refine z_iload_n (pc := 18) (i := 2) (j := 2) dX11_setting_18 rfl rfl ?_
    obtain ⟨q6, hq6, hf⟩ := Option.bind_eq_some_iff.mp hf
    refine z_oVi (pc := 19) (as := [.int v1, .int v2]) (rest := []) dX11_setting_19 lm_RX11_371 mf_X11_holdingSets mi_X11_holdingSets mv_X11_holdingSets rc_41 rfl rfl (Nat.le_of_ble_eq_true rfl) (c_X11_holdingSets e (by omega) v1 v2 q5.2 hq6) ?_
    refine z_istore_n (pc := 22) (i := 3) (ls' := [(3, .int q6.1), (0, .ref 41), (1, .int v1), (2, .int v2)]) dX11_setting_22 rfl (Nat.le_of_ble_eq_true rfl) rfl ?_
    refine z_iload_n (pc := 23) (i := 3) (j := 0) dX11_setting_23 rfl rfl ?_
    refine z_aload_n (pc := 24) (i := 0) (j := 1) dX11_setting_24 rfl rfl ?_
    refine z_iload_n (pc := 25) (i := 1) (j := 2) dX11_setting_25 rfl rfl ?_
    refine z_iconst (pc := 26) dX11_setting_26 ki_2 ?_
    obtain ⟨q7, hq7, hf⟩ := Option.bind_eq_some_iff.mp hf
    refine z_oVi (pc := 27) (as := [.int v1, .int 2]) (rest := [.int q6.1]) dX11_setting_27 lm_RX11_356 mf_X11_standsOf mi_X11_standsOf mv_X11_standsOf rc_41 rfl rfl (Nat.le_of_ble_eq_true rfl) (c_X11_standsOf e (by omega) v1 2 q6.2 hq7) ?_
    refine z_isub (pc := 30) dX11_setting_30 ?_
    obtain rfl := Option.some.inj hf
    rw [h0 _ hK]
    exact z_iret dX11_setting_31 rfl rfl
set_option maxHeartbeats 4000000 in
set_option maxRecDepth 100000 in
theorem c_X11_setting (d : Nat) (hd : 4 ≤ d) (v1 : Int32) (v2 : Int32) (m : ej_M) {q : (Int32 × ej_M)} (hf : f_X11_setting v1 v2 m = some q) : ej_Ct yX11_setting cX11_setting 4 (some .int) d [.ref 41, .int v1, .int v2] (ej_sh, m) ((some (Value.int q.1), (ej_sh, q.2)) : Option Value × ej_H) := by
  obtain ⟨e, rfl⟩ : ∃ e, d = e + 1 := ⟨d - 1, by omega⟩
  exact z_met (by decide +kernel) (Nat.le_of_ble_eq_true rfl) (b_X11_setting e (by omega) v1 v2 m (K := fun z => ((some (Value.int q.1), (ej_sh, q.2)) : Option Value × ej_H) = (some (Value.int z.1), (ej_sh, z.2))) hf rfl (fun _ h => h))
def f_X11_holding (v1 : Int32) (v2 : Int32) (m : ej_M) : Option (Int32 × ej_M) :=
  (oj_ld 0 m 64 v1).bind fun w1 =>
  (f_X11_isUnder w1 3 m).bind fun q2 =>
  if q2.1 = 0 then
    (oj_ld 0 q2.2 64 v1).bind fun w3 =>
    if w3 = 7 then
      (f_X11_ran 80 q2.2).bind fun q7 =>
      (f_X11_plainHolds v1 v2 q7.2).bind fun q8 =>
      (f_X11_setting v1 2 q8.2).bind fun q9 =>
      some ((q8.1 + q9.1), q9.2)
    else
      (oj_ld 0 q2.2 64 v1).bind fun w4 =>
      if w4 = 2 then
        (f_X11_heldHolds v1 v2 q2.2).bind fun q6 =>
        some (q6.1, q6.2)
      else
        (f_X11_plainHolds v1 v2 q2.2).bind fun q5 =>
        some (q5.1, q5.2)
  else
    (f_X11_ran 41 q2.2).bind fun q10 =>
    (f_X11_heldHolds v1 (v2 + 1) q10.2).bind fun q11 =>
    some (q11.1, q11.2)
set_option maxHeartbeats 4000000 in
set_option maxRecDepth 100000 in
theorem b_X11_holding (e : Nat) (hd : 5 ≤ e) (v1 : Int32) (v2 : Int32) (m : ej_M) {x : (Int32 × ej_M)} {res : Option Value × ej_H} {K : (Int32 × ej_M) → Prop} (hf : f_X11_holding v1 v2 m = some x) (hK : K x) (h0 : ∀ q : (Int32 × ej_M), K q → res = (some (Value.int q.1), (ej_sh, q.2))) : ej_Z cX11_holding 4 (some .int) RX11 "holding" (e + 1) 0 [(0, .ref 41), (1, .int v1), (2, .int v2)] [] (ej_sh, m) res := by
  unfold f_X11_holding at hf
  refine z_aload_n (pc := 0) (i := 0) (j := 0) dX11_holding_0 rfl rfl ?_
  refine z_ogetR (pc := 1) dX11_holding_1 lf_RX11_78 sh_41 rfl rfl rfl ?_
  refine z_iload_n (pc := 4) (i := 1) (j := 1) dX11_holding_4 rfl rfl ?_
  obtain ⟨w1, hw1, hf⟩ := Option.bind_eq_some_iff.mp hf
  refine z_oiald (pc := 5) dX11_holding_5 hw1 ?_
  refine z_iconst (pc := 6) dX11_holding_6 ki_3 ?_
  obtain ⟨q2, hq2, hf⟩ := Option.bind_eq_some_iff.mp hf
  refine z_oSi (pc := 7) (as := [.int w1, .int 3]) (rest := []) dX11_holding_7 lm_RX11_350 mf_X11_isUnder ms_X11_isUnder rfl rfl (Nat.le_of_ble_eq_true rfl) (c_X11_isUnder e (by omega) w1 3 m hq2) ?_
  refine z_if_eq (pc := 10) (tgt := 28) dX11_holding_10 (by decide) (fun hc => ?_) (fun hc => ?_)
  · rw [if_pos hc] at hf
    refine z_aload_n (pc := 28) (i := 0) (j := 0) dX11_holding_28 rfl rfl ?_
    refine z_ogetR (pc := 29) dX11_holding_29 lf_RX11_78 sh_41 rfl rfl rfl ?_
    refine z_iload_n (pc := 32) (i := 1) (j := 1) dX11_holding_32 rfl rfl ?_
    obtain ⟨w3, hw3, hf⟩ := Option.bind_eq_some_iff.mp hf
    refine z_oiald (pc := 33) dX11_holding_33 hw3 ?_
    refine z_bipush (pc := 34) dX11_holding_34 kb_7 ?_
    refine z_icmp_ne (pc := 36) (tgt := 61) dX11_holding_36 (by decide) (fun hc => ?_) (fun hc => ?_)
    · rw [if_neg hc] at hf
      refine z_aload_n (pc := 61) (i := 0) (j := 0) dX11_holding_61 rfl rfl ?_
      refine z_ogetR (pc := 62) dX11_holding_62 lf_RX11_78 sh_41 rfl rfl rfl ?_
      refine z_iload_n (pc := 65) (i := 1) (j := 1) dX11_holding_65 rfl rfl ?_
      obtain ⟨w4, hw4, hf⟩ := Option.bind_eq_some_iff.mp hf
      refine z_oiald (pc := 66) dX11_holding_66 hw4 ?_
      refine z_iconst (pc := 67) dX11_holding_67 ki_2 ?_
      refine z_icmp_ne (pc := 68) (tgt := 80) dX11_holding_68 (by decide) (fun hc => ?_) (fun hc => ?_)
      · rw [if_neg hc] at hf
        refine z_aload_n (pc := 80) (i := 0) (j := 0) dX11_holding_80 rfl rfl ?_
        refine z_iload_n (pc := 81) (i := 1) (j := 1) dX11_holding_81 rfl rfl ?_
        refine z_iload_n (pc := 82) (i := 2) (j := 2) dX11_holding_82 rfl rfl ?_
        obtain ⟨q5, hq5, hf⟩ := Option.bind_eq_some_iff.mp hf
        refine z_oVi (pc := 83) (as := [.int v1, .int v2]) (rest := []) dX11_holding_83 lm_RX11_359 mf_X11_plainHolds mi_X11_plainHolds mv_X11_plainHolds rc_41 rfl rfl (Nat.le_of_ble_eq_true rfl) (c_X11_plainHolds e (by omega) v1 v2 q2.2 hq5) ?_
        obtain rfl := Option.some.inj hf
        rw [h0 _ hK]
        exact z_iret dX11_holding_86 rfl rfl
      · rw [if_pos hc] at hf
        refine z_aload_n (pc := 71) (i := 0) (j := 0) dX11_holding_71 rfl rfl ?_
        refine z_iload_n (pc := 72) (i := 1) (j := 1) dX11_holding_72 rfl rfl ?_
        refine z_iload_n (pc := 73) (i := 2) (j := 2) dX11_holding_73 rfl rfl ?_
        obtain ⟨q6, hq6, hf⟩ := Option.bind_eq_some_iff.mp hf
        refine z_oVi (pc := 74) (as := [.int v1, .int v2]) (rest := []) dX11_holding_74 lm_RX11_362 mf_X11_heldHolds mi_X11_heldHolds mv_X11_heldHolds rc_41 rfl rfl (Nat.le_of_ble_eq_true rfl) (c_X11_heldHolds e (by omega) v1 v2 q2.2 hq6) ?_
        refine z_goto (pc := 77) (tgt := 86) dX11_holding_77 (by decide) ?_
        obtain rfl := Option.some.inj hf
        rw [h0 _ hK]
        exact z_iret dX11_holding_86 rfl rfl
    · rw [if_pos hc] at hf
      refine z_aload_n (pc := 39) (i := 0) (j := 0) dX11_holding_39 rfl rfl ?_
      refine z_bipush (pc := 40) dX11_holding_40 kb_80 ?_
      obtain ⟨q7, hq7, hf⟩ := Option.bind_eq_some_iff.mp hf
      refine z_oVv (pc := 42) (as := [.int 80]) (rest := []) dX11_holding_42 lm_RX11_344 mf_X11_ran mi_X11_ran mv_X11_ran rc_41 rfl rfl (Nat.le_of_ble_eq_true rfl) (c_X11_ran e (by omega) 80 q2.2 hq7) ?_
      refine z_aload_n (pc := 45) (i := 0) (j := 0) dX11_holding_45 rfl rfl ?_
      refine z_iload_n (pc := 46) (i := 1) (j := 1) dX11_holding_46 rfl rfl ?_
      refine z_iload_n (pc := 47) (i := 2) (j := 2) dX11_holding_47 rfl rfl ?_
      obtain ⟨q8, hq8, hf⟩ := Option.bind_eq_some_iff.mp hf
      refine z_oVi (pc := 48) (as := [.int v1, .int v2]) (rest := []) dX11_holding_48 lm_RX11_359 mf_X11_plainHolds mi_X11_plainHolds mv_X11_plainHolds rc_41 rfl rfl (Nat.le_of_ble_eq_true rfl) (c_X11_plainHolds e (by omega) v1 v2 q7.2 hq8) ?_
      refine z_istore_n (pc := 51) (i := 3) (ls' := [(3, .int q8.1), (0, .ref 41), (1, .int v1), (2, .int v2)]) dX11_holding_51 rfl (Nat.le_of_ble_eq_true rfl) rfl ?_
      refine z_iload_n (pc := 52) (i := 3) (j := 0) dX11_holding_52 rfl rfl ?_
      refine z_aload_n (pc := 53) (i := 0) (j := 1) dX11_holding_53 rfl rfl ?_
      refine z_iload_n (pc := 54) (i := 1) (j := 2) dX11_holding_54 rfl rfl ?_
      refine z_iconst (pc := 55) dX11_holding_55 ki_2 ?_
      obtain ⟨q9, hq9, hf⟩ := Option.bind_eq_some_iff.mp hf
      refine z_oVi (pc := 56) (as := [.int v1, .int 2]) (rest := [.int q8.1]) dX11_holding_56 lm_RX11_365 mf_X11_setting mi_X11_setting mv_X11_setting rc_41 rfl rfl (Nat.le_of_ble_eq_true rfl) (c_X11_setting e (by omega) v1 2 q8.2 hq9) ?_
      refine z_iadd (pc := 59) dX11_holding_59 ?_
      obtain rfl := Option.some.inj hf
      rw [h0 _ hK]
      exact z_iret dX11_holding_60 rfl rfl
  · rw [if_neg hc] at hf
    refine z_aload_n (pc := 13) (i := 0) (j := 0) dX11_holding_13 rfl rfl ?_
    refine z_bipush (pc := 14) dX11_holding_14 kb_41 ?_
    obtain ⟨q10, hq10, hf⟩ := Option.bind_eq_some_iff.mp hf
    refine z_oVv (pc := 16) (as := [.int 41]) (rest := []) dX11_holding_16 lm_RX11_344 mf_X11_ran mi_X11_ran mv_X11_ran rc_41 rfl rfl (Nat.le_of_ble_eq_true rfl) (c_X11_ran e (by omega) 41 q2.2 hq10) ?_
    refine z_aload_n (pc := 19) (i := 0) (j := 0) dX11_holding_19 rfl rfl ?_
    refine z_iload_n (pc := 20) (i := 1) (j := 1) dX11_holding_20 rfl rfl ?_
    refine z_iload_n (pc := 21) (i := 2) (j := 2) dX11_holding_21 rfl rfl ?_
    refine z_iconst (pc := 22) dX11_holding_22 ki_1 ?_
    refine z_iadd (pc := 23) dX11_holding_23 ?_
    obtain ⟨q11, hq11, hf⟩ := Option.bind_eq_some_iff.mp hf
    refine z_oVi (pc := 24) (as := [.int v1, .int (v2 + 1)]) (rest := []) dX11_holding_24 lm_RX11_362 mf_X11_heldHolds mi_X11_heldHolds mv_X11_heldHolds rc_41 rfl rfl (Nat.le_of_ble_eq_true rfl) (c_X11_heldHolds e (by omega) v1 (v2 + 1) q10.2 hq11) ?_
    obtain rfl := Option.some.inj hf
    rw [h0 _ hK]
    exact z_iret dX11_holding_27 rfl rfl
set_option maxHeartbeats 4000000 in
set_option maxRecDepth 100000 in
theorem c_X11_holding (d : Nat) (hd : 6 ≤ d) (v1 : Int32) (v2 : Int32) (m : ej_M) {q : (Int32 × ej_M)} (hf : f_X11_holding v1 v2 m = some q) : ej_Ct yX11_holding cX11_holding 4 (some .int) d [.ref 41, .int v1, .int v2] (ej_sh, m) ((some (Value.int q.1), (ej_sh, q.2)) : Option Value × ej_H) := by
  obtain ⟨e, rfl⟩ : ∃ e, d = e + 1 := ⟨d - 1, by omega⟩
  exact z_met (by decide +kernel) (Nat.le_of_ble_eq_true rfl) (b_X11_holding e (by omega) v1 v2 m (K := fun z => ((some (Value.int q.1), (ej_sh, q.2)) : Option Value × ej_H) = (some (Value.int z.1), (ej_sh, z.2))) hf rfl (fun _ h => h))
def f_X11_isBody (v1 : Int32) (m : ej_M) : Option (Int32 × ej_M) :=
  (f_X11_in v1 0 ((m.1 41 43) - 1) m).bind fun q1 =>
  oj_rz q1.1 q1.2
set_option maxHeartbeats 4000000 in
set_option maxRecDepth 100000 in
theorem b_X11_isBody (e : Nat) (hd : 0 ≤ e) (v1 : Int32) (m : ej_M) {x : (Int32 × ej_M)} {res : Option Value × ej_H} {K : (Int32 × ej_M) → Prop} (hf : f_X11_isBody v1 m = some x) (hK : K x) (h0 : ∀ q : (Int32 × ej_M), K q → res = (some (Value.int q.1), (ej_sh, q.2))) : ej_Z cX11_isBody 2 (some .boolean) RX11 "isBody" (e + 1) 0 [(0, .ref 41), (1, .int v1)] [] (ej_sh, m) res := by
  unfold f_X11_isBody at hf
  refine z_iload_n (pc := 0) (i := 1) (j := 1) dX11_isBody_0 rfl rfl ?_
  refine z_iconst (pc := 1) dX11_isBody_1 ki_0 ?_
  refine z_aload_n (pc := 2) (i := 0) (j := 0) dX11_isBody_2 rfl rfl ?_
  refine z_ogetI (pc := 3) dX11_isBody_3 lf_RX11_338 sh_41 rfl rfl ?_
  refine z_iconst (pc := 6) dX11_isBody_6 ki_1 ?_
  refine z_isub (pc := 7) dX11_isBody_7 ?_
  obtain ⟨q1, hq1, hf⟩ := Option.bind_eq_some_iff.mp hf
  refine z_oSi (pc := 8) (as := [.int v1, .int 0, .int ((m.1 41 43) - 1)]) (rest := []) dX11_isBody_8 lm_RX11_104 mf_X11_in ms_X11_in rfl rfl (Nat.le_of_ble_eq_true rfl) (c_X11_in e (by omega) v1 0 ((m.1 41 43) - 1) m hq1) ?_
  rw [h0 _ hK]
  exact z_oretz dX11_isBody_11 rfl hf
set_option maxHeartbeats 4000000 in
set_option maxRecDepth 100000 in
theorem c_X11_isBody (d : Nat) (hd : 1 ≤ d) (v1 : Int32) (m : ej_M) {q : (Int32 × ej_M)} (hf : f_X11_isBody v1 m = some q) : ej_Ct yX11_isBody cX11_isBody 2 (some .boolean) d [.ref 41, .int v1] (ej_sh, m) ((some (Value.int q.1), (ej_sh, q.2)) : Option Value × ej_H) := by
  obtain ⟨e, rfl⟩ : ∃ e, d = e + 1 := ⟨d - 1, by omega⟩
  exact z_met (by decide +kernel) (Nat.le_of_ble_eq_true rfl) (b_X11_isBody e (by omega) v1 m (K := fun z => ((some (Value.int q.1), (ej_sh, q.2)) : Option Value × ej_H) = (some (Value.int z.1), (ej_sh, z.2))) hf rfl (fun _ h => h))
def f_X11_plainSells (v1 : Int32) (v2 : Int32) (m : ej_M) : Option (Int32 × ej_M) :=
  (f_X11_ran 2 m).bind fun q1 =>
  (f_X11_holding v1 v2 q1.2).bind fun q2 =>
  (f_X11_setting v1 1 q2.2).bind fun q3 =>
  some ((q2.1 - q3.1), q3.2)
set_option maxHeartbeats 4000000 in
set_option maxRecDepth 100000 in
theorem b_X11_plainSells (e : Nat) (hd : 6 ≤ e) (v1 : Int32) (v2 : Int32) (m : ej_M) {x : (Int32 × ej_M)} {res : Option Value × ej_H} {K : (Int32 × ej_M) → Prop} (hf : f_X11_plainSells v1 v2 m = some x) (hK : K x) (h0 : ∀ q : (Int32 × ej_M), K q → res = (some (Value.int q.1), (ej_sh, q.2))) : ej_Z cX11_plainSells 4 (some .int) RX11 "plainSells" (e + 1) 0 [(0, .ref 41), (1, .int v1), (2, .int v2)] [] (ej_sh, m) res := by
  unfold f_X11_plainSells at hf
  refine z_aload_n (pc := 0) (i := 0) (j := 0) dX11_plainSells_0 rfl rfl ?_
  refine z_iconst (pc := 1) dX11_plainSells_1 ki_2 ?_
  obtain ⟨q1, hq1, hf⟩ := Option.bind_eq_some_iff.mp hf
  refine z_oVv (pc := 2) (as := [.int 2]) (rest := []) dX11_plainSells_2 lm_RX11_344 mf_X11_ran mi_X11_ran mv_X11_ran rc_41 rfl rfl (Nat.le_of_ble_eq_true rfl) (c_X11_ran e (by omega) 2 m hq1) ?_
  refine z_aload_n (pc := 5) (i := 0) (j := 0) dX11_plainSells_5 rfl rfl ?_
  refine z_iload_n (pc := 6) (i := 1) (j := 1) dX11_plainSells_6 rfl rfl ?_
  refine z_iload_n (pc := 7) (i := 2) (j := 2) dX11_plainSells_7 rfl rfl ?_
  obtain ⟨q2, hq2, hf⟩ := Option.bind_eq_some_iff.mp hf
  refine z_oVi (pc := 8) (as := [.int v1, .int v2]) (rest := []) dX11_plainSells_8 lm_RX11_374 mf_X11_holding mi_X11_holding mv_X11_holding rc_41 rfl rfl (Nat.le_of_ble_eq_true rfl) (c_X11_holding e (by omega) v1 v2 q1.2 hq2) ?_
  refine z_istore_n (pc := 11) (i := 3) (ls' := [(3, .int q2.1), (0, .ref 41), (1, .int v1), (2, .int v2)]) dX11_plainSells_11 rfl (Nat.le_of_ble_eq_true rfl) rfl ?_
  refine z_iload_n (pc := 12) (i := 3) (j := 0) dX11_plainSells_12 rfl rfl ?_
  refine z_aload_n (pc := 13) (i := 0) (j := 1) dX11_plainSells_13 rfl rfl ?_
  refine z_iload_n (pc := 14) (i := 1) (j := 2) dX11_plainSells_14 rfl rfl ?_
  refine z_iconst (pc := 15) dX11_plainSells_15 ki_1 ?_
  obtain ⟨q3, hq3, hf⟩ := Option.bind_eq_some_iff.mp hf
  refine z_oVi (pc := 16) (as := [.int v1, .int 1]) (rest := [.int q2.1]) dX11_plainSells_16 lm_RX11_365 mf_X11_setting mi_X11_setting mv_X11_setting rc_41 rfl rfl (Nat.le_of_ble_eq_true rfl) (c_X11_setting e (by omega) v1 1 q2.2 hq3) ?_
  refine z_isub (pc := 19) dX11_plainSells_19 ?_
  obtain rfl := Option.some.inj hf
  rw [h0 _ hK]
  exact z_iret dX11_plainSells_20 rfl rfl
set_option maxHeartbeats 4000000 in
set_option maxRecDepth 100000 in
theorem c_X11_plainSells (d : Nat) (hd : 7 ≤ d) (v1 : Int32) (v2 : Int32) (m : ej_M) {q : (Int32 × ej_M)} (hf : f_X11_plainSells v1 v2 m = some q) : ej_Ct yX11_plainSells cX11_plainSells 4 (some .int) d [.ref 41, .int v1, .int v2] (ej_sh, m) ((some (Value.int q.1), (ej_sh, q.2)) : Option Value × ej_H) := by
  obtain ⟨e, rfl⟩ : ∃ e, d = e + 1 := ⟨d - 1, by omega⟩
  exact z_met (by decide +kernel) (Nat.le_of_ble_eq_true rfl) (b_X11_plainSells e (by omega) v1 v2 m (K := fun z => ((some (Value.int q.1), (ej_sh, q.2)) : Option Value × ej_H) = (some (Value.int z.1), (ej_sh, z.2))) hf rfl (fun _ h => h))
def f_X11_selling (v1 : Int32) (v2 : Int32) (m : ej_M) : Option (Int32 × ej_M) :=
  (oj_ld 0 m 64 v1).bind fun w1 =>
  if w1 = 4 then
    (f_X11_ran 50 m).bind fun q6 =>
    (f_X11_plainSells v1 v2 q6.2).bind fun q7 =>
    some ((q7.1 ^^^ 5), q7.2)
  else
    (oj_ld 0 m 64 v1).bind fun w2 =>
    if w2 = 5 then
      (f_X11_ran 61 m).bind fun q4 =>
      (f_X11_plainSells v1 v2 q4.2).bind fun q5 =>
      some ((q5.1 + 1), q5.2)
    else
      (f_X11_plainSells v1 v2 m).bind fun q3 =>
      some (q3.1, q3.2)
set_option maxHeartbeats 4000000 in
set_option maxRecDepth 100000 in
theorem b_X11_selling (e : Nat) (hd : 7 ≤ e) (v1 : Int32) (v2 : Int32) (m : ej_M) {x : (Int32 × ej_M)} {res : Option Value × ej_H} {K : (Int32 × ej_M) → Prop} (hf : f_X11_selling v1 v2 m = some x) (hK : K x) (h0 : ∀ q : (Int32 × ej_M), K q → res = (some (Value.int q.1), (ej_sh, q.2))) : ej_Z cX11_selling 3 (some .int) RX11 "selling" (e + 1) 0 [(0, .ref 41), (1, .int v1), (2, .int v2)] [] (ej_sh, m) res := by
  unfold f_X11_selling at hf
  refine z_aload_n (pc := 0) (i := 0) (j := 0) dX11_selling_0 rfl rfl ?_
  refine z_ogetR (pc := 1) dX11_selling_1 lf_RX11_78 sh_41 rfl rfl rfl ?_
  refine z_iload_n (pc := 4) (i := 1) (j := 1) dX11_selling_4 rfl rfl ?_
  obtain ⟨w1, hw1, hf⟩ := Option.bind_eq_some_iff.mp hf
  refine z_oiald (pc := 5) dX11_selling_5 hw1 ?_
  refine z_iconst (pc := 6) dX11_selling_6 ki_4 ?_
  refine z_icmp_ne (pc := 7) (tgt := 25) dX11_selling_7 (by decide) (fun hc => ?_) (fun hc => ?_)
  · rw [if_neg hc] at hf
    refine z_aload_n (pc := 25) (i := 0) (j := 0) dX11_selling_25 rfl rfl ?_
    refine z_ogetR (pc := 26) dX11_selling_26 lf_RX11_78 sh_41 rfl rfl rfl ?_
    refine z_iload_n (pc := 29) (i := 1) (j := 1) dX11_selling_29 rfl rfl ?_
    obtain ⟨w2, hw2, hf⟩ := Option.bind_eq_some_iff.mp hf
    refine z_oiald (pc := 30) dX11_selling_30 hw2 ?_
    refine z_iconst (pc := 31) dX11_selling_31 ki_5 ?_
    refine z_icmp_ne (pc := 32) (tgt := 50) dX11_selling_32 (by decide) (fun hc => ?_) (fun hc => ?_)
    · rw [if_neg hc] at hf
      refine z_aload_n (pc := 50) (i := 0) (j := 0) dX11_selling_50 rfl rfl ?_
      refine z_iload_n (pc := 51) (i := 1) (j := 1) dX11_selling_51 rfl rfl ?_
      refine z_iload_n (pc := 52) (i := 2) (j := 2) dX11_selling_52 rfl rfl ?_
      obtain ⟨q3, hq3, hf⟩ := Option.bind_eq_some_iff.mp hf
      refine z_oVi (pc := 53) (as := [.int v1, .int v2]) (rest := []) dX11_selling_53 lm_RX11_377 mf_X11_plainSells mi_X11_plainSells mv_X11_plainSells rc_41 rfl rfl (Nat.le_of_ble_eq_true rfl) (c_X11_plainSells e (by omega) v1 v2 m hq3) ?_
      obtain rfl := Option.some.inj hf
      rw [h0 _ hK]
      exact z_iret dX11_selling_56 rfl rfl
    · rw [if_pos hc] at hf
      refine z_aload_n (pc := 35) (i := 0) (j := 0) dX11_selling_35 rfl rfl ?_
      refine z_bipush (pc := 36) dX11_selling_36 kb_61 ?_
      obtain ⟨q4, hq4, hf⟩ := Option.bind_eq_some_iff.mp hf
      refine z_oVv (pc := 38) (as := [.int 61]) (rest := []) dX11_selling_38 lm_RX11_344 mf_X11_ran mi_X11_ran mv_X11_ran rc_41 rfl rfl (Nat.le_of_ble_eq_true rfl) (c_X11_ran e (by omega) 61 m hq4) ?_
      refine z_aload_n (pc := 41) (i := 0) (j := 0) dX11_selling_41 rfl rfl ?_
      refine z_iload_n (pc := 42) (i := 1) (j := 1) dX11_selling_42 rfl rfl ?_
      refine z_iload_n (pc := 43) (i := 2) (j := 2) dX11_selling_43 rfl rfl ?_
      obtain ⟨q5, hq5, hf⟩ := Option.bind_eq_some_iff.mp hf
      refine z_oVi (pc := 44) (as := [.int v1, .int v2]) (rest := []) dX11_selling_44 lm_RX11_377 mf_X11_plainSells mi_X11_plainSells mv_X11_plainSells rc_41 rfl rfl (Nat.le_of_ble_eq_true rfl) (c_X11_plainSells e (by omega) v1 v2 q4.2 hq5) ?_
      refine z_iconst (pc := 47) dX11_selling_47 ki_1 ?_
      refine z_iadd (pc := 48) dX11_selling_48 ?_
      obtain rfl := Option.some.inj hf
      rw [h0 _ hK]
      exact z_iret dX11_selling_49 rfl rfl
  · rw [if_pos hc] at hf
    refine z_aload_n (pc := 10) (i := 0) (j := 0) dX11_selling_10 rfl rfl ?_
    refine z_bipush (pc := 11) dX11_selling_11 kb_50 ?_
    obtain ⟨q6, hq6, hf⟩ := Option.bind_eq_some_iff.mp hf
    refine z_oVv (pc := 13) (as := [.int 50]) (rest := []) dX11_selling_13 lm_RX11_344 mf_X11_ran mi_X11_ran mv_X11_ran rc_41 rfl rfl (Nat.le_of_ble_eq_true rfl) (c_X11_ran e (by omega) 50 m hq6) ?_
    refine z_aload_n (pc := 16) (i := 0) (j := 0) dX11_selling_16 rfl rfl ?_
    refine z_iload_n (pc := 17) (i := 1) (j := 1) dX11_selling_17 rfl rfl ?_
    refine z_iload_n (pc := 18) (i := 2) (j := 2) dX11_selling_18 rfl rfl ?_
    obtain ⟨q7, hq7, hf⟩ := Option.bind_eq_some_iff.mp hf
    refine z_oVi (pc := 19) (as := [.int v1, .int v2]) (rest := []) dX11_selling_19 lm_RX11_377 mf_X11_plainSells mi_X11_plainSells mv_X11_plainSells rc_41 rfl rfl (Nat.le_of_ble_eq_true rfl) (c_X11_plainSells e (by omega) v1 v2 q6.2 hq7) ?_
    refine z_iconst (pc := 22) dX11_selling_22 ki_5 ?_
    refine z_ixor (pc := 23) dX11_selling_23 ?_
    obtain rfl := Option.some.inj hf
    rw [h0 _ hK]
    exact z_iret dX11_selling_24 rfl rfl
set_option maxHeartbeats 4000000 in
set_option maxRecDepth 100000 in
theorem c_X11_selling (d : Nat) (hd : 8 ≤ d) (v1 : Int32) (v2 : Int32) (m : ej_M) {q : (Int32 × ej_M)} (hf : f_X11_selling v1 v2 m = some q) : ej_Ct yX11_selling cX11_selling 3 (some .int) d [.ref 41, .int v1, .int v2] (ej_sh, m) ((some (Value.int q.1), (ej_sh, q.2)) : Option Value × ej_H) := by
  obtain ⟨e, rfl⟩ : ∃ e, d = e + 1 := ⟨d - 1, by omega⟩
  exact z_met (by decide +kernel) (Nat.le_of_ble_eq_true rfl) (b_X11_selling e (by omega) v1 v2 m (K := fun z => ((some (Value.int q.1), (ej_sh, q.2)) : Option Value × ej_H) = (some (Value.int z.1), (ej_sh, z.2))) hf rfl (fun _ h => h))
def f_X11_act (v1 : Int32) (v2 : Int32) (v3 : Int32) (m : ej_M) : Option (Int32 × ej_M) :=
  (oj_pf m 41 45 0).bind fun m1 =>
  (f_X11_isBody v1 m1).bind fun q2 =>
  if q2.1 = 0 then
    some (0, q2.2)
  else
    (f_X11_in v2 0 3 q2.2).bind fun q3 =>
    if q3.1 = 0 then
      some (0, q3.2)
    else
      if v2 = 0 then
        (f_X11_standsOf v1 v3 q3.2).bind fun q7 =>
        some (q7.1, q7.2)
      else
        if v2 = 1 then
          (f_X11_holding v1 v3 q3.2).bind fun q6 =>
          some (q6.1, q6.2)
        else
          if v2 = 2 then
            (f_X11_setting v1 v3 q3.2).bind fun q5 =>
            some (q5.1, q5.2)
          else
            (f_X11_selling v1 v3 q3.2).bind fun q4 =>
            some (q4.1, q4.2)
set_option maxHeartbeats 4000000 in
set_option maxRecDepth 100000 in
theorem b_X11_act (e : Nat) (hd : 8 ≤ e) (v1 : Int32) (v2 : Int32) (v3 : Int32) (m : ej_M) {x : (Int32 × ej_M)} {res : Option Value × ej_H} {K : (Int32 × ej_M) → Prop} (hf : f_X11_act v1 v2 v3 m = some x) (hK : K x) (h0 : ∀ q : (Int32 × ej_M), K q → res = (some (Value.int q.1), (ej_sh, q.2))) : ej_Z cX11_act 4 (some .int) RX11 "act" (e + 1) 0 [(0, .ref 41), (1, .int v1), (2, .int v2), (3, .int v3)] [] (ej_sh, m) res := by
  unfold f_X11_act at hf
  refine z_aload_n (pc := 0) (i := 0) (j := 0) dX11_act_0 rfl rfl ?_
  refine z_iconst (pc := 1) dX11_act_1 ki_0 ?_
  obtain ⟨m1, hm1, hf⟩ := Option.bind_eq_some_iff.mp hf
  refine z_oputI (pc := 2) dX11_act_2 lf_RX11_341 sh_41 rfl hm1 ?_
  refine z_aload_n (pc := 5) (i := 0) (j := 0) dX11_act_5 rfl rfl ?_
  refine z_iload_n (pc := 6) (i := 1) (j := 1) dX11_act_6 rfl rfl ?_
  obtain ⟨q2, hq2, hf⟩ := Option.bind_eq_some_iff.mp hf
  refine z_oVi (pc := 7) (as := [.int v1]) (rest := []) dX11_act_7 lm_RX11_380 mf_X11_isBody mi_X11_isBody mv_X11_isBody rc_41 rfl rfl (Nat.le_of_ble_eq_true rfl) (c_X11_isBody e (by omega) v1 m1 hq2) ?_
  refine z_if_eq (pc := 10) (tgt := 22) dX11_act_10 (by decide) (fun hc => ?_) (fun hc => ?_)
  · rw [if_pos hc] at hf
    refine z_iconst (pc := 22) dX11_act_22 ki_0 ?_
    obtain rfl := Option.some.inj hf
    rw [h0 _ hK]
    exact z_iret dX11_act_23 rfl rfl
  · rw [if_neg hc] at hf
    refine z_iload_n (pc := 13) (i := 2) (j := 2) dX11_act_13 rfl rfl ?_
    refine z_iconst (pc := 14) dX11_act_14 ki_0 ?_
    refine z_iconst (pc := 15) dX11_act_15 ki_3 ?_
    obtain ⟨q3, hq3, hf⟩ := Option.bind_eq_some_iff.mp hf
    refine z_oSi (pc := 16) (as := [.int v2, .int 0, .int 3]) (rest := []) dX11_act_16 lm_RX11_104 mf_X11_in ms_X11_in rfl rfl (Nat.le_of_ble_eq_true rfl) (c_X11_in e (by omega) v2 0 3 q2.2 hq3) ?_
    refine z_if_ne (pc := 19) (tgt := 24) dX11_act_19 (by decide) (fun hc => ?_) (fun hc => ?_)
    · rw [if_neg hc] at hf
      refine z_iload_n (pc := 24) (i := 2) (j := 2) dX11_act_24 rfl rfl ?_
      refine z_if_ne (pc := 25) (tgt := 37) dX11_act_25 (by decide) (fun hc => ?_) (fun hc => ?_)
      · rw [if_neg hc] at hf
        refine z_iload_n (pc := 37) (i := 2) (j := 2) dX11_act_37 rfl rfl ?_
        refine z_iconst (pc := 38) dX11_act_38 ki_1 ?_
        refine z_icmp_ne (pc := 39) (tgt := 51) dX11_act_39 (by decide) (fun hc => ?_) (fun hc => ?_)
        · rw [if_neg hc] at hf
          refine z_iload_n (pc := 51) (i := 2) (j := 2) dX11_act_51 rfl rfl ?_
          refine z_iconst (pc := 52) dX11_act_52 ki_2 ?_
          refine z_icmp_ne (pc := 53) (tgt := 65) dX11_act_53 (by decide) (fun hc => ?_) (fun hc => ?_)
          · rw [if_neg hc] at hf
            refine z_aload_n (pc := 65) (i := 0) (j := 0) dX11_act_65 rfl rfl ?_
            refine z_iload_n (pc := 66) (i := 1) (j := 1) dX11_act_66 rfl rfl ?_
            refine z_iload_n (pc := 67) (i := 3) (j := 3) dX11_act_67 rfl rfl ?_
            obtain ⟨q4, hq4, hf⟩ := Option.bind_eq_some_iff.mp hf
            refine z_oVi (pc := 68) (as := [.int v1, .int v3]) (rest := []) dX11_act_68 lm_RX11_383 mf_X11_selling mi_X11_selling mv_X11_selling rc_41 rfl rfl (Nat.le_of_ble_eq_true rfl) (c_X11_selling e (by omega) v1 v3 q3.2 hq4) ?_
            obtain rfl := Option.some.inj hf
            rw [h0 _ hK]
            exact z_iret dX11_act_71 rfl rfl
          · rw [if_pos hc] at hf
            refine z_aload_n (pc := 56) (i := 0) (j := 0) dX11_act_56 rfl rfl ?_
            refine z_iload_n (pc := 57) (i := 1) (j := 1) dX11_act_57 rfl rfl ?_
            refine z_iload_n (pc := 58) (i := 3) (j := 3) dX11_act_58 rfl rfl ?_
            obtain ⟨q5, hq5, hf⟩ := Option.bind_eq_some_iff.mp hf
            refine z_oVi (pc := 59) (as := [.int v1, .int v3]) (rest := []) dX11_act_59 lm_RX11_365 mf_X11_setting mi_X11_setting mv_X11_setting rc_41 rfl rfl (Nat.le_of_ble_eq_true rfl) (c_X11_setting e (by omega) v1 v3 q3.2 hq5) ?_
            refine z_goto (pc := 62) (tgt := 71) dX11_act_62 (by decide) ?_
            obtain rfl := Option.some.inj hf
            rw [h0 _ hK]
            exact z_iret dX11_act_71 rfl rfl
        · rw [if_pos hc] at hf
          refine z_aload_n (pc := 42) (i := 0) (j := 0) dX11_act_42 rfl rfl ?_
          refine z_iload_n (pc := 43) (i := 1) (j := 1) dX11_act_43 rfl rfl ?_
          refine z_iload_n (pc := 44) (i := 3) (j := 3) dX11_act_44 rfl rfl ?_
          obtain ⟨q6, hq6, hf⟩ := Option.bind_eq_some_iff.mp hf
          refine z_oVi (pc := 45) (as := [.int v1, .int v3]) (rest := []) dX11_act_45 lm_RX11_374 mf_X11_holding mi_X11_holding mv_X11_holding rc_41 rfl rfl (Nat.le_of_ble_eq_true rfl) (c_X11_holding e (by omega) v1 v3 q3.2 hq6) ?_
          refine z_goto (pc := 48) (tgt := 71) dX11_act_48 (by decide) ?_
          obtain rfl := Option.some.inj hf
          rw [h0 _ hK]
          exact z_iret dX11_act_71 rfl rfl
      · rw [if_pos hc] at hf
        refine z_aload_n (pc := 28) (i := 0) (j := 0) dX11_act_28 rfl rfl ?_
        refine z_iload_n (pc := 29) (i := 1) (j := 1) dX11_act_29 rfl rfl ?_
        refine z_iload_n (pc := 30) (i := 3) (j := 3) dX11_act_30 rfl rfl ?_
        obtain ⟨q7, hq7, hf⟩ := Option.bind_eq_some_iff.mp hf
        refine z_oVi (pc := 31) (as := [.int v1, .int v3]) (rest := []) dX11_act_31 lm_RX11_356 mf_X11_standsOf mi_X11_standsOf mv_X11_standsOf rc_41 rfl rfl (Nat.le_of_ble_eq_true rfl) (c_X11_standsOf e (by omega) v1 v3 q3.2 hq7) ?_
        refine z_goto (pc := 34) (tgt := 71) dX11_act_34 (by decide) ?_
        obtain rfl := Option.some.inj hf
        rw [h0 _ hK]
        exact z_iret dX11_act_71 rfl rfl
    · rw [if_pos hc] at hf
      refine z_iconst (pc := 22) dX11_act_22 ki_0 ?_
      obtain rfl := Option.some.inj hf
      rw [h0 _ hK]
      exact z_iret dX11_act_23 rfl rfl
set_option maxHeartbeats 4000000 in
set_option maxRecDepth 100000 in
theorem c_X11_act (d : Nat) (hd : 9 ≤ d) (v1 : Int32) (v2 : Int32) (v3 : Int32) (m : ej_M) {q : (Int32 × ej_M)} (hf : f_X11_act v1 v2 v3 m = some q) : ej_Ct yX11_act cX11_act 4 (some .int) d [.ref 41, .int v1, .int v2, .int v3] (ej_sh, m) ((some (Value.int q.1), (ej_sh, q.2)) : Option Value × ej_H) := by
  obtain ⟨e, rfl⟩ : ∃ e, d = e + 1 := ⟨d - 1, by omega⟩
  exact z_met (by decide +kernel) (Nat.le_of_ble_eq_true rfl) (b_X11_act e (by omega) v1 v2 v3 m (K := fun z => ((some (Value.int q.1), (ej_sh, q.2)) : Option Value × ej_H) = (some (Value.int z.1), (ej_sh, z.2))) hf rfl (fun _ h => h))
def f_X0_traced (v1 : Int32) (m : ej_M) : Option (Int32 × ej_M) :=
  if v1 < 0 then
    some ((-1), m)
  else
    if (m.1 34 3) ≤ v1 then
      some ((-1), m)
    else
      if 24 ≤ v1 then
        some ((-1), m)
      else
        (f_X10_at 36 v1 m).bind fun q1 =>
        some (q1.1, q1.2)
set_option maxHeartbeats 4000000 in
set_option maxRecDepth 100000 in
theorem b_X0_traced (e : Nat) (hd : 0 ≤ e) (v1 : Int32) (m : ej_M) {x : (Int32 × ej_M)} {res : Option Value × ej_H} {K : (Int32 × ej_M) → Prop} (hf : f_X0_traced v1 m = some x) (hK : K x) (h0 : ∀ q : (Int32 × ej_M), K q → res = (some (Value.int q.1), (ej_sh, q.2))) : ej_Z cX0_traced 2 (some .int) RX0 "traced" (e + 1) 0 [(0, .ref 34), (1, .int v1)] [] (ej_sh, m) res := by
  unfold f_X0_traced at hf
  refine z_iload_n (pc := 0) (i := 1) (j := 1) dX0_traced_0 rfl rfl ?_
  refine z_if_lt (pc := 1) (tgt := 29) dX0_traced_1 (by decide) (fun hc => ?_) (fun hc => ?_)
  · rw [if_pos hc] at hf
    refine z_iconst (pc := 29) dX0_traced_29 ki_n1 ?_
    obtain rfl := Option.some.inj hf
    rw [h0 _ hK]
    exact z_iret dX0_traced_30 rfl rfl
  · rw [if_neg hc] at hf
    refine z_iload_n (pc := 4) (i := 1) (j := 1) dX0_traced_4 rfl rfl ?_
    refine z_aload_n (pc := 5) (i := 0) (j := 0) dX0_traced_5 rfl rfl ?_
    refine z_ogetI (pc := 6) dX0_traced_6 lf_RX0_37 sh_34 rfl rfl ?_
    refine z_icmp_ge (pc := 9) (tgt := 29) dX0_traced_9 (by decide) (fun hc => ?_) (fun hc => ?_)
    · rw [if_pos hc] at hf
      refine z_iconst (pc := 29) dX0_traced_29 ki_n1 ?_
      obtain rfl := Option.some.inj hf
      rw [h0 _ hK]
      exact z_iret dX0_traced_30 rfl rfl
    · rw [if_neg hc] at hf
      refine z_iload_n (pc := 12) (i := 1) (j := 1) dX0_traced_12 rfl rfl ?_
      refine z_bipush (pc := 13) dX0_traced_13 kb_24 ?_
      refine z_icmp_ge (pc := 15) (tgt := 29) dX0_traced_15 (by decide) (fun hc => ?_) (fun hc => ?_)
      · rw [if_pos hc] at hf
        refine z_iconst (pc := 29) dX0_traced_29 ki_n1 ?_
        obtain rfl := Option.some.inj hf
        rw [h0 _ hK]
        exact z_iret dX0_traced_30 rfl rfl
      · rw [if_neg hc] at hf
        refine z_aload_n (pc := 18) (i := 0) (j := 0) dX0_traced_18 rfl rfl ?_
        refine z_ogetR (pc := 19) dX0_traced_19 lf_RX0_15 sh_34 rfl rfl rfl ?_
        refine z_iload_n (pc := 22) (i := 1) (j := 1) dX0_traced_22 rfl rfl ?_
        obtain ⟨q1, hq1, hf⟩ := Option.bind_eq_some_iff.mp hf
        refine z_oSi (pc := 23) (as := [.ref 36, .int v1]) (rest := []) dX0_traced_23 lm_RX0_30 mf_X10_at ms_X10_at rfl rfl (Nat.le_of_ble_eq_true rfl) (c_X10_at e (by omega) 36 v1 m hq1) ?_
        refine z_goto (pc := 26) (tgt := 30) dX0_traced_26 (by decide) ?_
        obtain rfl := Option.some.inj hf
        rw [h0 _ hK]
        exact z_iret dX0_traced_30 rfl rfl
set_option maxHeartbeats 4000000 in
set_option maxRecDepth 100000 in
theorem c_X0_traced (d : Nat) (hd : 1 ≤ d) (v1 : Int32) (m : ej_M) {q : (Int32 × ej_M)} (hf : f_X0_traced v1 m = some q) : ej_Ct yX0_traced cX0_traced 2 (some .int) d [.ref 34, .int v1] (ej_sh, m) ((some (Value.int q.1), (ej_sh, q.2)) : Option Value × ej_H) := by
  obtain ⟨e, rfl⟩ : ∃ e, d = e + 1 := ⟨d - 1, by omega⟩
  exact z_met (by decide +kernel) (Nat.le_of_ble_eq_true rfl) (b_X0_traced e (by omega) v1 m (K := fun z => ((some (Value.int q.1), (ej_sh, q.2)) : Option Value × ej_H) = (some (Value.int z.1), (ej_sh, z.2))) hf rfl (fun _ h => h))
def f_X10_trace (v1 : Int32) (m : ej_M) : Option (Int32 × ej_M) :=
  (f_X0_traced v1 m).bind fun q1 =>
  some (q1.1, q1.2)
set_option maxHeartbeats 4000000 in
set_option maxRecDepth 100000 in
theorem b_X10_trace (e : Nat) (hd : 1 ≤ e) (v1 : Int32) (m : ej_M) {x : (Int32 × ej_M)} {res : Option Value × ej_H} {K : (Int32 × ej_M) → Prop} (hf : f_X10_trace v1 m = some x) (hK : K x) (h0 : ∀ q : (Int32 × ej_M), K q → res = (some (Value.int q.1), (ej_sh, q.2))) : ej_Z cX10_trace 2 (some .int) RX10 "trace" (e + 1) 0 [(0, .ref 0), (1, .int v1)] [] (ej_sh, m) res := by
  unfold f_X10_trace at hf
  refine z_aload_n (pc := 0) (i := 0) (j := 0) dX10_trace_0 rfl rfl ?_
  refine z_ogetR (pc := 1) dX10_trace_1 lf_RX10_72 sh_0 rfl rfl rfl ?_
  refine z_iload_n (pc := 4) (i := 1) (j := 1) dX10_trace_4 rfl rfl ?_
  obtain ⟨q1, hq1, hf⟩ := Option.bind_eq_some_iff.mp hf
  refine z_oVi (pc := 5) (as := [.int v1]) (rest := []) dX10_trace_5 lm_RX10_262 mf_X0_traced mi_X0_traced mv_X0_traced rc_34 rfl rfl (Nat.le_of_ble_eq_true rfl) (c_X0_traced e (by omega) v1 m hq1) ?_
  obtain rfl := Option.some.inj hf
  rw [h0 _ hK]
  exact z_iret dX10_trace_8 rfl rfl
set_option maxHeartbeats 4000000 in
set_option maxRecDepth 100000 in
theorem c_X10_trace (d : Nat) (hd : 2 ≤ d) (v1 : Int32) (m : ej_M) {q : (Int32 × ej_M)} (hf : f_X10_trace v1 m = some q) : ej_Ct yX10_trace cX10_trace 2 (some .int) d [.ref 0, .int v1] (ej_sh, m) ((some (Value.int q.1), (ej_sh, q.2)) : Option Value × ej_H) := by
  obtain ⟨e, rfl⟩ : ∃ e, d = e + 1 := ⟨d - 1, by omega⟩
  exact z_met (by decide +kernel) (Nat.le_of_ble_eq_true rfl) (b_X10_trace e (by omega) v1 m (K := fun z => ((some (Value.int q.1), (ej_sh, q.2)) : Option Value × ej_H) = (some (Value.int z.1), (ej_sh, z.2))) hf rfl (fun _ h => h))
def f_X11_trace (v1 : Int32) (m : ej_M) : Option (Int32 × ej_M) :=
  if v1 < 0 then
    some ((-1), m)
  else
    if (m.1 41 45) ≤ v1 then
      some ((-1), m)
    else
      if 24 ≤ v1 then
        some ((-1), m)
      else
        (oj_ld 0 m 65 v1).bind fun w1 =>
        some (w1, m)
set_option maxHeartbeats 4000000 in
set_option maxRecDepth 100000 in
theorem b_X11_trace (d : Nat) (v1 : Int32) (m : ej_M) {x : (Int32 × ej_M)} {res : Option Value × ej_H} {K : (Int32 × ej_M) → Prop} (hf : f_X11_trace v1 m = some x) (hK : K x) (h0 : ∀ q : (Int32 × ej_M), K q → res = (some (Value.int q.1), (ej_sh, q.2))) : ej_Z cX11_trace 2 (some .int) RX11 "trace" d 0 [(0, .ref 41), (1, .int v1)] [] (ej_sh, m) res := by
  unfold f_X11_trace at hf
  refine z_iload_n (pc := 0) (i := 1) (j := 1) dX11_trace_0 rfl rfl ?_
  refine z_if_lt (pc := 1) (tgt := 27) dX11_trace_1 (by decide) (fun hc => ?_) (fun hc => ?_)
  · rw [if_pos hc] at hf
    refine z_iconst (pc := 27) dX11_trace_27 ki_n1 ?_
    obtain rfl := Option.some.inj hf
    rw [h0 _ hK]
    exact z_iret dX11_trace_28 rfl rfl
  · rw [if_neg hc] at hf
    refine z_iload_n (pc := 4) (i := 1) (j := 1) dX11_trace_4 rfl rfl ?_
    refine z_aload_n (pc := 5) (i := 0) (j := 0) dX11_trace_5 rfl rfl ?_
    refine z_ogetI (pc := 6) dX11_trace_6 lf_RX11_341 sh_41 rfl rfl ?_
    refine z_icmp_ge (pc := 9) (tgt := 27) dX11_trace_9 (by decide) (fun hc => ?_) (fun hc => ?_)
    · rw [if_pos hc] at hf
      refine z_iconst (pc := 27) dX11_trace_27 ki_n1 ?_
      obtain rfl := Option.some.inj hf
      rw [h0 _ hK]
      exact z_iret dX11_trace_28 rfl rfl
    · rw [if_neg hc] at hf
      refine z_iload_n (pc := 12) (i := 1) (j := 1) dX11_trace_12 rfl rfl ?_
      refine z_bipush (pc := 13) dX11_trace_13 kb_24 ?_
      refine z_icmp_ge (pc := 15) (tgt := 27) dX11_trace_15 (by decide) (fun hc => ?_) (fun hc => ?_)
      · rw [if_pos hc] at hf
        refine z_iconst (pc := 27) dX11_trace_27 ki_n1 ?_
        obtain rfl := Option.some.inj hf
        rw [h0 _ hK]
        exact z_iret dX11_trace_28 rfl rfl
      · rw [if_neg hc] at hf
        refine z_aload_n (pc := 18) (i := 0) (j := 0) dX11_trace_18 rfl rfl ?_
        refine z_ogetR (pc := 19) dX11_trace_19 lf_RX11_81 sh_41 rfl rfl rfl ?_
        refine z_iload_n (pc := 22) (i := 1) (j := 1) dX11_trace_22 rfl rfl ?_
        obtain ⟨w1, hw1, hf⟩ := Option.bind_eq_some_iff.mp hf
        refine z_oiald (pc := 23) dX11_trace_23 hw1 ?_
        refine z_goto (pc := 24) (tgt := 28) dX11_trace_24 (by decide) ?_
        obtain rfl := Option.some.inj hf
        rw [h0 _ hK]
        exact z_iret dX11_trace_28 rfl rfl
set_option maxHeartbeats 4000000 in
set_option maxRecDepth 100000 in
theorem c_X11_trace (d : Nat) (hd : 0 ≤ d) (v1 : Int32) (m : ej_M) {q : (Int32 × ej_M)} (hf : f_X11_trace v1 m = some q) : ej_Ct yX11_trace cX11_trace 2 (some .int) d [.ref 41, .int v1] (ej_sh, m) ((some (Value.int q.1), (ej_sh, q.2)) : Option Value × ej_H) := by
  exact z_met (by decide +kernel) (Nat.le_of_ble_eq_true rfl) (b_X11_trace d v1 m (K := fun z => ((some (Value.int q.1), (ej_sh, q.2)) : Option Value × ej_H) = (some (Value.int z.1), (ej_sh, z.2))) hf rfl (fun _ h => h))
def f_X6_store (v1 : Int32) (v2 : Int32) (v3 : Int64) (m : ej_M) : Option (Unit × ej_M) :=
  if ((v1 * 60) + v2) < 0 then
    some ((), m)
  else
    (oj_ln m 40).bind fun w1 =>
    if w1 ≤ ((v1 * 60) + v2) then
      some ((), m)
    else
      (oj_sl m 40 ((v1 * 60) + v2) v3).bind fun m2 =>
      some ((), m2)
set_option maxHeartbeats 4000000 in
set_option maxRecDepth 100000 in
theorem b_X6_store (d : Nat) (v1 : Int32) (v2 : Int32) (v3 : Int64) (m : ej_M) {x : (Unit × ej_M)} {res : Option Value × ej_H} {K : (Unit × ej_M) → Prop} (hf : f_X6_store v1 v2 v3 m = some x) (hK : K x) (h0 : ∀ q : (Unit × ej_M), K q → res = (none, (ej_sh, q.2))) : ej_Z cX6_store 6 none RX6 "store" d 0 [(0, .ref 37), (1, .int v1), (2, .int v2), (3, .long v3)] [] (ej_sh, m) res := by
  unfold f_X6_store at hf
  refine z_iload_n (pc := 0) (i := 1) (j := 1) dX6_store_0 rfl rfl ?_
  refine z_bipush (pc := 1) dX6_store_1 kb_60 ?_
  refine z_imul (pc := 3) dX6_store_3 ?_
  refine z_iload_n (pc := 4) (i := 2) (j := 2) dX6_store_4 rfl rfl ?_
  refine z_iadd (pc := 5) dX6_store_5 ?_
  refine z_istore (pc := 6) (i := 5) (ls' := [(5, .int ((v1 * 60) + v2)), (0, .ref 37), (1, .int v1), (2, .int v2), (3, .long v3)]) dX6_store_6 (Nat.le_of_ble_eq_true rfl) rfl ?_
  refine z_iload (pc := 8) (i := 5) (j := 0) dX6_store_8 rfl ?_
  refine z_if_lt (pc := 10) (tgt := 31) dX6_store_10 (by decide) (fun hc => ?_) (fun hc => ?_)
  · rw [if_pos hc] at hf
    obtain rfl := Option.some.inj hf
    rw [h0 _ hK]
    exact z_ret dX6_store_31 rfl
  · rw [if_neg hc] at hf
    refine z_iload (pc := 13) (i := 5) (j := 0) dX6_store_13 rfl ?_
    refine z_aload_n (pc := 15) (i := 0) (j := 1) dX6_store_15 rfl rfl ?_
    refine z_ogetR (pc := 16) dX6_store_16 lf_RX6_18 sh_37 rfl rfl rfl ?_
    obtain ⟨w1, hw1, hf⟩ := Option.bind_eq_some_iff.mp hf
    refine z_oalen (pc := 19) dX6_store_19 hw1 ?_
    refine z_icmp_ge (pc := 20) (tgt := 31) dX6_store_20 (by decide) (fun hc => ?_) (fun hc => ?_)
    · rw [if_pos hc] at hf
      obtain rfl := Option.some.inj hf
      rw [h0 _ hK]
      exact z_ret dX6_store_31 rfl
    · rw [if_neg hc] at hf
      refine z_aload_n (pc := 23) (i := 0) (j := 1) dX6_store_23 rfl rfl ?_
      refine z_ogetR (pc := 24) dX6_store_24 lf_RX6_18 sh_37 rfl rfl rfl ?_
      refine z_iload (pc := 27) (i := 5) (j := 0) dX6_store_27 rfl ?_
      refine z_lload_n (pc := 29) (i := 3) (j := 4) dX6_store_29 rfl rfl ?_
      obtain ⟨m2, hm2, hf⟩ := Option.bind_eq_some_iff.mp hf
      refine z_olast (pc := 30) dX6_store_30 hm2 ?_
      obtain rfl := Option.some.inj hf
      rw [h0 _ hK]
      exact z_ret dX6_store_31 rfl
set_option maxHeartbeats 4000000 in
set_option maxRecDepth 100000 in
theorem c_X6_store (d : Nat) (hd : 0 ≤ d) (v1 : Int32) (v2 : Int32) (v3 : Int64) (m : ej_M) {q : (Unit × ej_M)} (hf : f_X6_store v1 v2 v3 m = some q) : ej_Ct yX6_store cX6_store 6 none d [.ref 37, .int v1, .int v2, .long v3] (ej_sh, m) ((none, (ej_sh, q.2)) : Option Value × ej_H) := by
  exact z_met (by decide +kernel) (Nat.le_of_ble_eq_true rfl) (b_X6_store d v1 v2 v3 m (K := fun z => ((none, (ej_sh, q.2)) : Option Value × ej_H) = (none, (ej_sh, z.2))) hf rfl (fun _ h => h))
