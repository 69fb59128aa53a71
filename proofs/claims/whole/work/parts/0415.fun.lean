def f_X6_bodyOn (v1 : Int32) (m : ej_M) : Option (Int32 × ej_M) :=
  (f_X10_at 39 v1 m).bind fun q1 =>
  some (q1.1, q1.2)
set_option maxHeartbeats 4000000 in
set_option maxRecDepth 100000 in
theorem b_X6_bodyOn (e : Nat) (hd : 0 ≤ e) (v1 : Int32) (m : ej_M) {x : (Int32 × ej_M)} {res : Option Value × ej_H} {K : (Int32 × ej_M) → Prop} (hf : f_X6_bodyOn v1 m = some x) (hK : K x) (h0 : ∀ q : (Int32 × ej_M), K q → res = (some (Value.int q.1), (ej_sh, q.2))) : ej_Z cX6_bodyOn 2 (some .int) RX6 "bodyOn" (e + 1) 0 [(0, .ref 37), (1, .int v1)] [] (ej_sh, m) res := by
  unfold f_X6_bodyOn at hf
  refine z_aload_n (pc := 0) (i := 0) (j := 0) dX6_bodyOn_0 rfl rfl ?_
  refine z_ogetR (pc := 1) dX6_bodyOn_1 lf_RX6_15 sh_37 rfl rfl rfl ?_
  refine z_iload_n (pc := 4) (i := 1) (j := 1) dX6_bodyOn_4 rfl rfl ?_
  obtain ⟨q1, hq1, hf⟩ := Option.bind_eq_some_iff.mp hf
  refine z_oSi (pc := 5) (as := [.ref 39, .int v1]) (rest := []) dX6_bodyOn_5 lm_RX6_26 mf_X10_at ms_X10_at rfl rfl (Nat.le_of_ble_eq_true rfl) (c_X10_at e (by omega) 39 v1 m hq1) ?_
  obtain rfl := Option.some.inj hf
  rw [h0 _ hK]
  exact z_iret dX6_bodyOn_8 rfl rfl
set_option maxHeartbeats 4000000 in
set_option maxRecDepth 100000 in
theorem c_X6_bodyOn (d : Nat) (hd : 1 ≤ d) (v1 : Int32) (m : ej_M) {q : (Int32 × ej_M)} (hf : f_X6_bodyOn v1 m = some q) : ej_Ct yX6_bodyOn cX6_bodyOn 2 (some .int) d [.ref 37, .int v1] (ej_sh, m) ((some (Value.int q.1), (ej_sh, q.2)) : Option Value × ej_H) := by
  obtain ⟨e, rfl⟩ : ∃ e, d = e + 1 := ⟨d - 1, by omega⟩
  exact z_met (by decide +kernel) (Nat.le_of_ble_eq_true rfl) (b_X6_bodyOn e (by omega) v1 m (K := fun z => ((some (Value.int q.1), (ej_sh, q.2)) : Option Value × ej_H) = (some (Value.int z.1), (ej_sh, z.2))) hf rfl (fun _ h => h))
def f_X10_taken_B67 (v2 : Int32) (s0 : Int32) (m : ej_M) : Option (Int32 × ej_M) :=
  (f_X0_isUnder s0 v2 m).bind fun q1 =>
  if q1.1 = 0 then
    some ((-12), q1.2)
  else
    some (s0, q1.2)
set_option maxHeartbeats 4000000 in
set_option maxRecDepth 100000 in
theorem b_X10_taken_B67 (e : Nat) (hd : 1 ≤ e) (v2 : Int32) (s0 : Int32) (m : ej_M) {x : (Int32 × ej_M)} {res : Option Value × ej_H} {K : (Int32 × ej_M) → Prop} (hf : f_X10_taken_B67 v2 s0 m = some x) (hK : K x) (h0 : ∀ q : (Int32 × ej_M), K q → res = (some (Value.int q.1), (ej_sh, q.2))) : ej_Z cX10_taken 4 (some .int) RX10 "taken" (e + 1) 67 [(0, .ref 0), (2, .int v2)] [.int s0] (ej_sh, m) res := by
  unfold f_X10_taken_B67 at hf
  refine z_istore_n (pc := 67) (i := 3) (ls' := [(3, .int s0), (0, .ref 0), (2, .int v2)]) dX10_taken_67 rfl (Nat.le_of_ble_eq_true rfl) rfl ?_
  refine z_aload_n (pc := 68) (i := 0) (j := 1) dX10_taken_68 rfl rfl ?_
  refine z_ogetR (pc := 69) dX10_taken_69 lf_RX10_72 sh_0 rfl rfl rfl ?_
  refine z_iload_n (pc := 72) (i := 3) (j := 0) dX10_taken_72 rfl rfl ?_
  refine z_iload_n (pc := 73) (i := 2) (j := 2) dX10_taken_73 rfl rfl ?_
  obtain ⟨q1, hq1, hf⟩ := Option.bind_eq_some_iff.mp hf
  refine z_oVi (pc := 74) (as := [.int s0, .int v2]) (rest := []) dX10_taken_74 lm_RX10_298 mf_X0_isUnder mi_X0_isUnder mv_X0_isUnder rc_34 rfl rfl (Nat.le_of_ble_eq_true rfl) (c_X0_isUnder e (by omega) s0 v2 m hq1) ?_
  refine z_if_eq (pc := 77) (tgt := 84) dX10_taken_77 (by decide) (fun hc => ?_) (fun hc => ?_)
  · rw [if_pos hc] at hf
    refine z_bipush (pc := 84) dX10_taken_84 kb_n12 ?_
    obtain rfl := Option.some.inj hf
    rw [h0 _ hK]
    exact z_iret dX10_taken_86 rfl rfl
  · rw [if_neg hc] at hf
    refine z_iload_n (pc := 80) (i := 3) (j := 0) dX10_taken_80 rfl rfl ?_
    refine z_goto (pc := 81) (tgt := 86) dX10_taken_81 (by decide) ?_
    obtain rfl := Option.some.inj hf
    rw [h0 _ hK]
    exact z_iret dX10_taken_86 rfl rfl
def f_X10_taken (v1 : Int32) (v2 : Int32) (m : ej_M) : Option (Int32 × ej_M) :=
  (f_X6_has v1 m).bind fun q1 =>
  if q1.1 = 0 then
    some ((-1), q1.2)
  else
    if v2 < 0 then
      some ((-1), q1.2)
    else
      if v2 < 8 then
        (f_X6_isEmpty v1 q1.2).bind fun q2 =>
        if q2.1 = 0 then
          (f_X6_holdsBody v1 q2.2).bind fun q3 =>
          if q3.1 = 0 then
            f_X10_taken_B67 v2 (-1) q3.2
          else
            (f_X6_bodyOn v1 q3.2).bind fun q4 =>
            (f_X0_kindOf q4.1 q4.2).bind fun q5 =>
            f_X10_taken_B67 v2 q5.1 q5.2
        else
          some ((-11), q2.2)
      else
        some ((-1), q1.2)
set_option maxHeartbeats 4000000 in
set_option maxRecDepth 100000 in
theorem b_X10_taken (e : Nat) (hd : 1 ≤ e) (v1 : Int32) (v2 : Int32) (m : ej_M) {x : (Int32 × ej_M)} {res : Option Value × ej_H} {K : (Int32 × ej_M) → Prop} (hf : f_X10_taken v1 v2 m = some x) (hK : K x) (h0 : ∀ q : (Int32 × ej_M), K q → res = (some (Value.int q.1), (ej_sh, q.2))) : ej_Z cX10_taken 4 (some .int) RX10 "taken" (e + 1) 0 [(0, .ref 0), (1, .int v1), (2, .int v2)] [] (ej_sh, m) res := by
  unfold f_X10_taken at hf
  refine z_aload_n (pc := 0) (i := 0) (j := 0) dX10_taken_0 rfl rfl ?_
  refine z_ogetR (pc := 1) dX10_taken_1 lf_RX10_79 sh_0 rfl rfl rfl ?_
  refine z_iload_n (pc := 4) (i := 1) (j := 1) dX10_taken_4 rfl rfl ?_
  obtain ⟨q1, hq1, hf⟩ := Option.bind_eq_some_iff.mp hf
  refine z_oVi (pc := 5) (as := [.int v1]) (rest := []) dX10_taken_5 lm_RX10_87 mf_X6_has mi_X6_has mv_X6_has rc_37 rfl rfl (Nat.le_of_ble_eq_true rfl) (c_X6_has e (by omega) v1 m hq1) ?_
  refine z_if_eq (pc := 8) (tgt := 21) dX10_taken_8 (by decide) (fun hc => ?_) (fun hc => ?_)
  · rw [if_pos hc] at hf
    refine z_iconst (pc := 21) dX10_taken_21 ki_n1 ?_
    obtain rfl := Option.some.inj hf
    rw [h0 _ hK]
    exact z_iret dX10_taken_22 rfl rfl
  · rw [if_neg hc] at hf
    refine z_iload_n (pc := 11) (i := 2) (j := 2) dX10_taken_11 rfl rfl ?_
    refine z_if_lt (pc := 12) (tgt := 21) dX10_taken_12 (by decide) (fun hc => ?_) (fun hc => ?_)
    · rw [if_pos hc] at hf
      refine z_iconst (pc := 21) dX10_taken_21 ki_n1 ?_
      obtain rfl := Option.some.inj hf
      rw [h0 _ hK]
      exact z_iret dX10_taken_22 rfl rfl
    · rw [if_neg hc] at hf
      refine z_iload_n (pc := 15) (i := 2) (j := 2) dX10_taken_15 rfl rfl ?_
      refine z_bipush (pc := 16) dX10_taken_16 kb_8 ?_
      refine z_icmp_lt (pc := 18) (tgt := 23) dX10_taken_18 (by decide) (fun hc => ?_) (fun hc => ?_)
      · rw [if_pos hc] at hf
        refine z_aload_n (pc := 23) (i := 0) (j := 0) dX10_taken_23 rfl rfl ?_
        refine z_ogetR (pc := 24) dX10_taken_24 lf_RX10_79 sh_0 rfl rfl rfl ?_
        refine z_iload_n (pc := 27) (i := 1) (j := 1) dX10_taken_27 rfl rfl ?_
        obtain ⟨q2, hq2, hf⟩ := Option.bind_eq_some_iff.mp hf
        refine z_oVi (pc := 28) (as := [.int v1]) (rest := []) dX10_taken_28 lm_RX10_286 mf_X6_isEmpty mi_X6_isEmpty mv_X6_isEmpty rc_37 rfl rfl (Nat.le_of_ble_eq_true rfl) (c_X6_isEmpty e (by omega) v1 q1.2 hq2) ?_
        refine z_if_eq (pc := 31) (tgt := 37) dX10_taken_31 (by decide) (fun hc => ?_) (fun hc => ?_)
        · rw [if_pos hc] at hf
          refine z_aload_n (pc := 37) (i := 0) (j := 0) dX10_taken_37 rfl rfl ?_
          refine z_ogetR (pc := 38) dX10_taken_38 lf_RX10_79 sh_0 rfl rfl rfl ?_
          refine z_iload_n (pc := 41) (i := 1) (j := 1) dX10_taken_41 rfl rfl ?_
          obtain ⟨q3, hq3, hf⟩ := Option.bind_eq_some_iff.mp hf
          refine z_oVi (pc := 42) (as := [.int v1]) (rest := []) dX10_taken_42 lm_RX10_289 mf_X6_holdsBody mi_X6_holdsBody mv_X6_holdsBody rc_37 rfl rfl (Nat.le_of_ble_eq_true rfl) (c_X6_holdsBody e (by omega) v1 q2.2 hq3) ?_
          refine z_if_eq (pc := 45) (tgt := 66) dX10_taken_45 (by decide) (fun hc => ?_) (fun hc => ?_)
          · rw [if_pos hc] at hf
            refine z_iconst (pc := 66) dX10_taken_66 ki_n1 ?_
            exact z_pick [0, 2] rfl (b_X10_taken_B67 e hd v2 (-1) q3.2 (K := K) hf hK  h0)
          · rw [if_neg hc] at hf
            refine z_aload_n (pc := 48) (i := 0) (j := 0) dX10_taken_48 rfl rfl ?_
            refine z_ogetR (pc := 49) dX10_taken_49 lf_RX10_72 sh_0 rfl rfl rfl ?_
            refine z_aload_n (pc := 52) (i := 0) (j := 0) dX10_taken_52 rfl rfl ?_
            refine z_ogetR (pc := 53) dX10_taken_53 lf_RX10_79 sh_0 rfl rfl rfl ?_
            refine z_iload_n (pc := 56) (i := 1) (j := 1) dX10_taken_56 rfl rfl ?_
            obtain ⟨q4, hq4, hf⟩ := Option.bind_eq_some_iff.mp hf
            refine z_oVi (pc := 57) (as := [.int v1]) (rest := [.ref 34]) dX10_taken_57 lm_RX10_292 mf_X6_bodyOn mi_X6_bodyOn mv_X6_bodyOn rc_37 rfl rfl (Nat.le_of_ble_eq_true rfl) (c_X6_bodyOn e (by omega) v1 q3.2 hq4) ?_
            obtain ⟨q5, hq5, hf⟩ := Option.bind_eq_some_iff.mp hf
            refine z_oVi (pc := 60) (as := [.int q4.1]) (rest := []) dX10_taken_60 lm_RX10_295 mf_X0_kindOf mi_X0_kindOf mv_X0_kindOf rc_34 rfl rfl (Nat.le_of_ble_eq_true rfl) (c_X0_kindOf e (by omega) q4.1 q4.2 hq5) ?_
            refine z_goto (pc := 63) (tgt := 67) dX10_taken_63 (by decide) ?_
            exact z_pick [0, 2] rfl (b_X10_taken_B67 e hd v2 q5.1 q5.2 (K := K) hf hK  h0)
        · rw [if_neg hc] at hf
          refine z_bipush (pc := 34) dX10_taken_34 kb_n11 ?_
          obtain rfl := Option.some.inj hf
          rw [h0 _ hK]
          exact z_iret dX10_taken_36 rfl rfl
      · rw [if_neg hc] at hf
        refine z_iconst (pc := 21) dX10_taken_21 ki_n1 ?_
        obtain rfl := Option.some.inj hf
        rw [h0 _ hK]
        exact z_iret dX10_taken_22 rfl rfl
set_option maxHeartbeats 4000000 in
set_option maxRecDepth 100000 in
theorem c_X10_taken (d : Nat) (hd : 2 ≤ d) (v1 : Int32) (v2 : Int32) (m : ej_M) {q : (Int32 × ej_M)} (hf : f_X10_taken v1 v2 m = some q) : ej_Ct yX10_taken cX10_taken 4 (some .int) d [.ref 0, .int v1, .int v2] (ej_sh, m) ((some (Value.int q.1), (ej_sh, q.2)) : Option Value × ej_H) := by
  obtain ⟨e, rfl⟩ : ∃ e, d = e + 1 := ⟨d - 1, by omega⟩
  exact z_met (by decide +kernel) (Nat.le_of_ble_eq_true rfl) (b_X10_taken e (by omega) v1 v2 m (K := fun z => ((some (Value.int q.1), (ej_sh, q.2)) : Option Value × ej_H) = (some (Value.int z.1), (ej_sh, z.2))) hf rfl (fun _ h => h))
def f_X11_taken (v1 : Int32) (v2 : Int32) (m : ej_M) : Option (Int32 × ej_M) :=
  (f_X11_isShelf v1 m).bind fun q1 =>
  if q1.1 = 0 then
    some ((-1), q1.2)
  else
    (f_X11_in v2 0 7 q1.2).bind fun q2 =>
    if q2.1 = 0 then
      some ((-1), q2.2)
    else
      (oj_ld 0 q2.2 66 v1).bind fun w3 =>
      if w3 = (-1) then
        some ((-11), q2.2)
      else
        (oj_ld 0 q2.2 66 v1).bind fun w4 =>
        if w4 < 0 then
          some ((-12), q2.2)
        else
          (oj_ld 0 q2.2 66 v1).bind fun w5 =>
          (oj_ld 0 q2.2 64 w5).bind fun w6 =>
          (f_X11_isUnder w6 v2 q2.2).bind fun q7 =>
          if q7.1 = 0 then
            some ((-12), q7.2)
          else
            (oj_ld 0 q7.2 66 v1).bind fun w8 =>
            (oj_ld 0 q7.2 64 w8).bind fun w9 =>
            some (w9, q7.2)
set_option maxHeartbeats 4000000 in
set_option maxRecDepth 100000 in
theorem b_X11_taken (e : Nat) (hd : 1 ≤ e) (v1 : Int32) (v2 : Int32) (m : ej_M) {x : (Int32 × ej_M)} {res : Option Value × ej_H} {K : (Int32 × ej_M) → Prop} (hf : f_X11_taken v1 v2 m = some x) (hK : K x) (h0 : ∀ q : (Int32 × ej_M), K q → res = (some (Value.int q.1), (ej_sh, q.2))) : ej_Z cX11_taken 3 (some .int) RX11 "taken" (e + 1) 0 [(0, .ref 41), (1, .int v1), (2, .int v2)] [] (ej_sh, m) res := by
  unfold f_X11_taken at hf
  refine z_iload_n (pc := 0) (i := 1) (j := 1) dX11_taken_0 rfl rfl ?_
  obtain ⟨q1, hq1, hf⟩ := Option.bind_eq_some_iff.mp hf
  refine z_oSi (pc := 1) (as := [.int v1]) (rest := []) dX11_taken_1 lm_RX11_115 mf_X11_isShelf ms_X11_isShelf rfl rfl (Nat.le_of_ble_eq_true rfl) (c_X11_isShelf e (by omega) v1 m hq1) ?_
  refine z_if_eq (pc := 4) (tgt := 17) dX11_taken_4 (by decide) (fun hc => ?_) (fun hc => ?_)
  · rw [if_pos hc] at hf
    refine z_iconst (pc := 17) dX11_taken_17 ki_n1 ?_
    obtain rfl := Option.some.inj hf
    rw [h0 _ hK]
    exact z_iret dX11_taken_18 rfl rfl
  · rw [if_neg hc] at hf
    refine z_iload_n (pc := 7) (i := 2) (j := 2) dX11_taken_7 rfl rfl ?_
    refine z_iconst (pc := 8) dX11_taken_8 ki_0 ?_
    refine z_bipush (pc := 9) dX11_taken_9 kb_7 ?_
    obtain ⟨q2, hq2, hf⟩ := Option.bind_eq_some_iff.mp hf
    refine z_oSi (pc := 11) (as := [.int v2, .int 0, .int 7]) (rest := []) dX11_taken_11 lm_RX11_104 mf_X11_in ms_X11_in rfl rfl (Nat.le_of_ble_eq_true rfl) (c_X11_in e (by omega) v2 0 7 q1.2 hq2) ?_
    refine z_if_ne (pc := 14) (tgt := 19) dX11_taken_14 (by decide) (fun hc => ?_) (fun hc => ?_)
    · rw [if_neg hc] at hf
      refine z_aload_n (pc := 19) (i := 0) (j := 0) dX11_taken_19 rfl rfl ?_
      refine z_ogetR (pc := 20) dX11_taken_20 lf_RX11_84 sh_41 rfl rfl rfl ?_
      refine z_iload_n (pc := 23) (i := 1) (j := 1) dX11_taken_23 rfl rfl ?_
      obtain ⟨w3, hw3, hf⟩ := Option.bind_eq_some_iff.mp hf
      refine z_oiald (pc := 24) dX11_taken_24 hw3 ?_
      refine z_iconst (pc := 25) dX11_taken_25 ki_n1 ?_
      refine z_icmp_ne (pc := 26) (tgt := 32) dX11_taken_26 (by decide) (fun hc => ?_) (fun hc => ?_)
      · rw [if_neg hc] at hf
        refine z_aload_n (pc := 32) (i := 0) (j := 0) dX11_taken_32 rfl rfl ?_
        refine z_ogetR (pc := 33) dX11_taken_33 lf_RX11_84 sh_41 rfl rfl rfl ?_
        refine z_iload_n (pc := 36) (i := 1) (j := 1) dX11_taken_36 rfl rfl ?_
        obtain ⟨w4, hw4, hf⟩ := Option.bind_eq_some_iff.mp hf
        refine z_oiald (pc := 37) dX11_taken_37 hw4 ?_
        refine z_if_lt (pc := 38) (tgt := 73) dX11_taken_38 (by decide) (fun hc => ?_) (fun hc => ?_)
        · rw [if_pos hc] at hf
          refine z_bipush (pc := 73) dX11_taken_73 kb_n12 ?_
          obtain rfl := Option.some.inj hf
          rw [h0 _ hK]
          exact z_iret dX11_taken_75 rfl rfl
        · rw [if_neg hc] at hf
          refine z_aload_n (pc := 41) (i := 0) (j := 0) dX11_taken_41 rfl rfl ?_
          refine z_ogetR (pc := 42) dX11_taken_42 lf_RX11_78 sh_41 rfl rfl rfl ?_
          refine z_aload_n (pc := 45) (i := 0) (j := 0) dX11_taken_45 rfl rfl ?_
          refine z_ogetR (pc := 46) dX11_taken_46 lf_RX11_84 sh_41 rfl rfl rfl ?_
          refine z_iload_n (pc := 49) (i := 1) (j := 1) dX11_taken_49 rfl rfl ?_
          obtain ⟨w5, hw5, hf⟩ := Option.bind_eq_some_iff.mp hf
          refine z_oiald (pc := 50) dX11_taken_50 hw5 ?_
          obtain ⟨w6, hw6, hf⟩ := Option.bind_eq_some_iff.mp hf
          refine z_oiald (pc := 51) dX11_taken_51 hw6 ?_
          refine z_iload_n (pc := 52) (i := 2) (j := 2) dX11_taken_52 rfl rfl ?_
          obtain ⟨q7, hq7, hf⟩ := Option.bind_eq_some_iff.mp hf
          refine z_oSi (pc := 53) (as := [.int w6, .int v2]) (rest := []) dX11_taken_53 lm_RX11_350 mf_X11_isUnder ms_X11_isUnder rfl rfl (Nat.le_of_ble_eq_true rfl) (c_X11_isUnder e (by omega) w6 v2 q2.2 hq7) ?_
          refine z_if_eq (pc := 56) (tgt := 73) dX11_taken_56 (by decide) (fun hc => ?_) (fun hc => ?_)
          · rw [if_pos hc] at hf
            refine z_bipush (pc := 73) dX11_taken_73 kb_n12 ?_
            obtain rfl := Option.some.inj hf
            rw [h0 _ hK]
            exact z_iret dX11_taken_75 rfl rfl
          · rw [if_neg hc] at hf
            refine z_aload_n (pc := 59) (i := 0) (j := 0) dX11_taken_59 rfl rfl ?_
            refine z_ogetR (pc := 60) dX11_taken_60 lf_RX11_78 sh_41 rfl rfl rfl ?_
            refine z_aload_n (pc := 63) (i := 0) (j := 0) dX11_taken_63 rfl rfl ?_
            refine z_ogetR (pc := 64) dX11_taken_64 lf_RX11_84 sh_41 rfl rfl rfl ?_
            refine z_iload_n (pc := 67) (i := 1) (j := 1) dX11_taken_67 rfl rfl ?_
            obtain ⟨w8, hw8, hf⟩ := Option.bind_eq_some_iff.mp hf
            refine z_oiald (pc := 68) dX11_taken_68 hw8 ?_
            obtain ⟨w9, hw9, hf⟩ := Option.bind_eq_some_iff.mp hf
            refine z_oiald (pc := 69) dX11_taken_69 hw9 ?_
            refine z_goto (pc := 70) (tgt := 75) dX11_taken_70 (by decide) ?_
            obtain rfl := Option.some.inj hf
            rw [h0 _ hK]
            exact z_iret dX11_taken_75 rfl rfl
      · rw [if_pos hc] at hf
        refine z_bipush (pc := 29) dX11_taken_29 kb_n11 ?_
        obtain rfl := Option.some.inj hf
        rw [h0 _ hK]
        exact z_iret dX11_taken_31 rfl rfl
    · rw [if_pos hc] at hf
      refine z_iconst (pc := 17) dX11_taken_17 ki_n1 ?_
      obtain rfl := Option.some.inj hf
      rw [h0 _ hK]
      exact z_iret dX11_taken_18 rfl rfl
set_option maxHeartbeats 4000000 in
set_option maxRecDepth 100000 in
theorem c_X11_taken (d : Nat) (hd : 2 ≤ d) (v1 : Int32) (v2 : Int32) (m : ej_M) {q : (Int32 × ej_M)} (hf : f_X11_taken v1 v2 m = some q) : ej_Ct yX11_taken cX11_taken 3 (some .int) d [.ref 41, .int v1, .int v2] (ej_sh, m) ((some (Value.int q.1), (ej_sh, q.2)) : Option Value × ej_H) := by
  obtain ⟨e, rfl⟩ : ∃ e, d = e + 1 := ⟨d - 1, by omega⟩
  exact z_met (by decide +kernel) (Nat.le_of_ble_eq_true rfl) (b_X11_taken e (by omega) v1 v2 m (K := fun z => ((some (Value.int q.1), (ej_sh, q.2)) : Option Value × ej_H) = (some (Value.int z.1), (ej_sh, z.2))) hf rfl (fun _ h => h))
def f_X10_count (v1 : Int32) (m : ej_M) : Option (Int32 × ej_M) :=
  if v1 = 0 then
    some ((m.1 6 2), m)
  else
    if v1 = 1 then
      some ((m.1 6 4), m)
    else
      if v1 = 2 then
        some ((m.1 1 1), m)
      else
        if v1 = 3 then
          some ((m.1 11 4), m)
        else
          if v1 = 4 then
            some ((m.1 34 1), m)
          else
            if v1 = 5 then
              some ((m.1 34 3), m)
            else
              some ((-1), m)
set_option maxHeartbeats 4000000 in
set_option maxRecDepth 100000 in
theorem b_X10_count (d : Nat) (v1 : Int32) (m : ej_M) {x : (Int32 × ej_M)} {res : Option Value × ej_H} {K : (Int32 × ej_M) → Prop} (hf : f_X10_count v1 m = some x) (hK : K x) (h0 : ∀ q : (Int32 × ej_M), K q → res = (some (Value.int q.1), (ej_sh, q.2))) : ej_Z cX10_count 2 (some .int) RX10 "count" d 0 [(0, .ref 0), (1, .int v1)] [] (ej_sh, m) res := by
  unfold f_X10_count at hf
  refine z_iload_n (pc := 0) (i := 1) (j := 1) dX10_count_0 rfl rfl ?_
  by_cases hs0 : v1 = 0
  · rw [if_pos hs0] at hf
    refine z_tabIn (pc := 1) (off := 39) (tgt := 40) dX10_count_1 (by rw [hs0]; decide) (by rw [hs0]; decide) (by rw [hs0]; rfl) (by decide) ?_
    refine z_aload_n (pc := 40) (i := 0) (j := 0) dX10_count_40 rfl rfl ?_
    refine z_ogetR (pc := 41) dX10_count_41 lf_RX10_21 sh_0 rfl rfl rfl ?_
    refine z_ogetI (pc := 44) dX10_count_44 lf_RX10_302 sh_6 rfl rfl ?_
    obtain rfl := Option.some.inj hf
    rw [h0 _ hK]
    exact z_iret dX10_count_47 rfl rfl
  · rw [if_neg hs0] at hf
    by_cases hs1 : v1 = 1
    · rw [if_pos hs1] at hf
      refine z_tabIn (pc := 1) (off := 47) (tgt := 48) dX10_count_1 (by rw [hs1]; decide) (by rw [hs1]; decide) (by rw [hs1]; rfl) (by decide) ?_
      refine z_aload_n (pc := 48) (i := 0) (j := 0) dX10_count_48 rfl rfl ?_
      refine z_ogetR (pc := 49) dX10_count_49 lf_RX10_21 sh_0 rfl rfl rfl ?_
      refine z_ogetI (pc := 52) dX10_count_52 lf_RX10_136 sh_6 rfl rfl ?_
      obtain rfl := Option.some.inj hf
      rw [h0 _ hK]
      exact z_iret dX10_count_55 rfl rfl
    · rw [if_neg hs1] at hf
      by_cases hs2 : v1 = 2
      · rw [if_pos hs2] at hf
        refine z_tabIn (pc := 1) (off := 55) (tgt := 56) dX10_count_1 (by rw [hs2]; decide) (by rw [hs2]; decide) (by rw [hs2]; rfl) (by decide) ?_
        refine z_aload_n (pc := 56) (i := 0) (j := 0) dX10_count_56 rfl rfl ?_
        refine z_ogetR (pc := 57) dX10_count_57 lf_RX10_10 sh_0 rfl rfl rfl ?_
        refine z_ogetI (pc := 60) dX10_count_60 lf_RX10_305 sh_1 rfl rfl ?_
        obtain rfl := Option.some.inj hf
        rw [h0 _ hK]
        exact z_iret dX10_count_63 rfl rfl
      · rw [if_neg hs2] at hf
        by_cases hs3 : v1 = 3
        · rw [if_pos hs3] at hf
          refine z_tabIn (pc := 1) (off := 63) (tgt := 64) dX10_count_1 (by rw [hs3]; decide) (by rw [hs3]; decide) (by rw [hs3]; rfl) (by decide) ?_
          refine z_aload_n (pc := 64) (i := 0) (j := 0) dX10_count_64 rfl rfl ?_
          refine z_ogetR (pc := 65) dX10_count_65 lf_RX10_30 sh_0 rfl rfl rfl ?_
          refine z_ogetI (pc := 68) dX10_count_68 lf_RX10_307 sh_11 rfl rfl ?_
          obtain rfl := Option.some.inj hf
          rw [h0 _ hK]
          exact z_iret dX10_count_71 rfl rfl
        · rw [if_neg hs3] at hf
          by_cases hs4 : v1 = 4
          · rw [if_pos hs4] at hf
            refine z_tabIn (pc := 1) (off := 71) (tgt := 72) dX10_count_1 (by rw [hs4]; decide) (by rw [hs4]; decide) (by rw [hs4]; rfl) (by decide) ?_
            refine z_aload_n (pc := 72) (i := 0) (j := 0) dX10_count_72 rfl rfl ?_
            refine z_ogetR (pc := 73) dX10_count_73 lf_RX10_72 sh_0 rfl rfl rfl ?_
            refine z_ogetI (pc := 76) dX10_count_76 lf_RX10_310 sh_34 rfl rfl ?_
            obtain rfl := Option.some.inj hf
            rw [h0 _ hK]
            exact z_iret dX10_count_79 rfl rfl
          · rw [if_neg hs4] at hf
            by_cases hs5 : v1 = 5
            · rw [if_pos hs5] at hf
              refine z_tabIn (pc := 1) (off := 79) (tgt := 80) dX10_count_1 (by rw [hs5]; decide) (by rw [hs5]; decide) (by rw [hs5]; rfl) (by decide) ?_
              refine z_aload_n (pc := 80) (i := 0) (j := 0) dX10_count_80 rfl rfl ?_
              refine z_ogetR (pc := 81) dX10_count_81 lf_RX10_72 sh_0 rfl rfl rfl ?_
              refine z_ogetI (pc := 84) dX10_count_84 lf_RX10_313 sh_34 rfl rfl ?_
              obtain rfl := Option.some.inj hf
              rw [h0 _ hK]
              exact z_iret dX10_count_87 rfl rfl
            · rw [if_neg hs5] at hf
              refine z_tabD (pc := 1) (tgt := 88) dX10_count_1 (by decide) (fun k hk => ?_) (by decide) ?_
              · have hk9 : k = 0 ∨ k = 1 ∨ k = 2 ∨ k = 3 ∨ k = 4 ∨ k = 5 := by have hk8 : k < 6 := hk; omega
                rcases hk9 with rfl | rfl | rfl | rfl | rfl | rfl
                · exact Or.inr (by have := lv_neT hs0 (show (0 : Int32).toInt = 0 by decide); omega)
                · exact Or.inr (by have := lv_neT hs1 (show (1 : Int32).toInt = 1 by decide); omega)
                · exact Or.inr (by have := lv_neT hs2 (show (2 : Int32).toInt = 2 by decide); omega)
                · exact Or.inr (by have := lv_neT hs3 (show (3 : Int32).toInt = 3 by decide); omega)
                · exact Or.inr (by have := lv_neT hs4 (show (4 : Int32).toInt = 4 by decide); omega)
                · exact Or.inr (by have := lv_neT hs5 (show (5 : Int32).toInt = 5 by decide); omega)
              refine z_iconst (pc := 88) dX10_count_88 ki_n1 ?_
              obtain rfl := Option.some.inj hf
              rw [h0 _ hK]
              exact z_iret dX10_count_89 rfl rfl
set_option maxHeartbeats 4000000 in
set_option maxRecDepth 100000 in
theorem c_X10_count (d : Nat) (hd : 0 ≤ d) (v1 : Int32) (m : ej_M) {q : (Int32 × ej_M)} (hf : f_X10_count v1 m = some q) : ej_Ct yX10_count cX10_count 2 (some .int) d [.ref 0, .int v1] (ej_sh, m) ((some (Value.int q.1), (ej_sh, q.2)) : Option Value × ej_H) := by
  exact z_met (by decide +kernel) (Nat.le_of_ble_eq_true rfl) (b_X10_count d v1 m (K := fun z => ((some (Value.int q.1), (ej_sh, q.2)) : Option Value × ej_H) = (some (Value.int z.1), (ej_sh, z.2))) hf rfl (fun _ h => h))
def f_X11_count (v1 : Int32) (m : ej_M) : Option (Int32 × ej_M) :=
  if v1 = 0 then
    some ((m.1 41 1), m)
  else
    if v1 = 1 then
      some ((m.1 41 4), m)
    else
      if v1 = 2 then
        some ((m.1 41 15), m)
      else
        if v1 = 3 then
          some ((m.1 41 8), m)
        else
          if v1 = 4 then
            some ((m.1 41 43), m)
          else
            if v1 = 5 then
              some ((m.1 41 45), m)
            else
              some ((-1), m)
set_option maxHeartbeats 4000000 in
set_option maxRecDepth 100000 in
theorem b_X11_count (d : Nat) (v1 : Int32) (m : ej_M) {x : (Int32 × ej_M)} {res : Option Value × ej_H} {K : (Int32 × ej_M) → Prop} (hf : f_X11_count v1 m = some x) (hK : K x) (h0 : ∀ q : (Int32 × ej_M), K q → res = (some (Value.int q.1), (ej_sh, q.2))) : ej_Z cX11_count 2 (some .int) RX11 "count" d 0 [(0, .ref 41), (1, .int v1)] [] (ej_sh, m) res := by
  unfold f_X11_count at hf
  refine z_iload_n (pc := 0) (i := 1) (j := 1) dX11_count_0 rfl rfl ?_
  by_cases hs0 : v1 = 0
  · rw [if_pos hs0] at hf
    refine z_tabIn (pc := 1) (off := 39) (tgt := 40) dX11_count_1 (by rw [hs0]; decide) (by rw [hs0]; decide) (by rw [hs0]; rfl) (by decide) ?_
    refine z_aload_n (pc := 40) (i := 0) (j := 0) dX11_count_40 rfl rfl ?_
    refine z_ogetI (pc := 41) dX11_count_41 lf_RX11_101 sh_41 rfl rfl ?_
    obtain rfl := Option.some.inj hf
    rw [h0 _ hK]
    exact z_iret dX11_count_44 rfl rfl
  · rw [if_neg hs0] at hf
    by_cases hs1 : v1 = 1
    · rw [if_pos hs1] at hf
      refine z_tabIn (pc := 1) (off := 44) (tgt := 45) dX11_count_1 (by rw [hs1]; decide) (by rw [hs1]; decide) (by rw [hs1]; rfl) (by decide) ?_
      refine z_aload_n (pc := 45) (i := 0) (j := 0) dX11_count_45 rfl rfl ?_
      refine z_ogetI (pc := 46) dX11_count_46 lf_RX11_108 sh_41 rfl rfl ?_
      obtain rfl := Option.some.inj hf
      rw [h0 _ hK]
      exact z_iret dX11_count_49 rfl rfl
    · rw [if_neg hs1] at hf
      by_cases hs2 : v1 = 2
      · rw [if_pos hs2] at hf
        refine z_tabIn (pc := 1) (off := 49) (tgt := 50) dX11_count_1 (by rw [hs2]; decide) (by rw [hs2]; decide) (by rw [hs2]; rfl) (by decide) ?_
        refine z_aload_n (pc := 50) (i := 0) (j := 0) dX11_count_50 rfl rfl ?_
        refine z_ogetI (pc := 51) dX11_count_51 lf_RX11_143 sh_41 rfl rfl ?_
        obtain rfl := Option.some.inj hf
        rw [h0 _ hK]
        exact z_iret dX11_count_54 rfl rfl
      · rw [if_neg hs2] at hf
        by_cases hs3 : v1 = 3
        · rw [if_pos hs3] at hf
          refine z_tabIn (pc := 1) (off := 54) (tgt := 55) dX11_count_1 (by rw [hs3]; decide) (by rw [hs3]; decide) (by rw [hs3]; rfl) (by decide) ?_
          refine z_aload_n (pc := 55) (i := 0) (j := 0) dX11_count_55 rfl rfl ?_
          refine z_ogetI (pc := 56) dX11_count_56 lf_RX11_129 sh_41 rfl rfl ?_
          obtain rfl := Option.some.inj hf
          rw [h0 _ hK]
          exact z_iret dX11_count_59 rfl rfl
        · rw [if_neg hs3] at hf
          by_cases hs4 : v1 = 4
          · rw [if_pos hs4] at hf
            refine z_tabIn (pc := 1) (off := 59) (tgt := 60) dX11_count_1 (by rw [hs4]; decide) (by rw [hs4]; decide) (by rw [hs4]; rfl) (by decide) ?_
            refine z_aload_n (pc := 60) (i := 0) (j := 0) dX11_count_60 rfl rfl ?_
            refine z_ogetI (pc := 61) dX11_count_61 lf_RX11_338 sh_41 rfl rfl ?_
            obtain rfl := Option.some.inj hf
            rw [h0 _ hK]
            exact z_iret dX11_count_64 rfl rfl
          · rw [if_neg hs4] at hf
            by_cases hs5 : v1 = 5
            · rw [if_pos hs5] at hf
              refine z_tabIn (pc := 1) (off := 64) (tgt := 65) dX11_count_1 (by rw [hs5]; decide) (by rw [hs5]; decide) (by rw [hs5]; rfl) (by decide) ?_
              refine z_aload_n (pc := 65) (i := 0) (j := 0) dX11_count_65 rfl rfl ?_
              refine z_ogetI (pc := 66) dX11_count_66 lf_RX11_341 sh_41 rfl rfl ?_
              obtain rfl := Option.some.inj hf
              rw [h0 _ hK]
              exact z_iret dX11_count_69 rfl rfl
            · rw [if_neg hs5] at hf
              refine z_tabD (pc := 1) (tgt := 70) dX11_count_1 (by decide) (fun k hk => ?_) (by decide) ?_
              · have hk9 : k = 0 ∨ k = 1 ∨ k = 2 ∨ k = 3 ∨ k = 4 ∨ k = 5 := by have hk8 : k < 6 := hk; omega
                rcases hk9 with rfl | rfl | rfl | rfl | rfl | rfl
                · exact Or.inr (by have := lv_neT hs0 (show (0 : Int32).toInt = 0 by decide); omega)
                · exact Or.inr (by have := lv_neT hs1 (show (1 : Int32).toInt = 1 by decide); omega)
                · exact Or.inr (by have := lv_neT hs2 (show (2 : Int32).toInt = 2 by decide); omega)
                · exact Or.inr (by have := lv_neT hs3 (show (3 : Int32).toInt = 3 by decide); omega)
                · exact Or.inr (by have := lv_neT hs4 (show (4 : Int32).toInt = 4 by decide); omega)
                · exact Or.inr (by have := lv_neT hs5 (show (5 : Int32).toInt = 5 by decide); omega)
              refine z_iconst (pc := 70) dX11_count_70 ki_n1 ?_
              obtain rfl := Option.some.inj hf
              rw [h0 _ hK]
              exact z_iret dX11_count_71 rfl rfl
set_option maxHeartbeats 4000000 in
set_option maxRecDepth 100000 in
theorem c_X11_count (d : Nat) (hd : 0 ≤ d) (v1 : Int32) (m : ej_M) {q : (Int32 × ej_M)} (hf : f_X11_count v1 m = some q) : ej_Ct yX11_count cX11_count 2 (some .int) d [.ref 41, .int v1] (ej_sh, m) ((some (Value.int q.1), (ej_sh, q.2)) : Option Value × ej_H) := by
  exact z_met (by decide +kernel) (Nat.le_of_ble_eq_true rfl) (b_X11_count d v1 m (K := fun z => ((some (Value.int q.1), (ej_sh, q.2)) : Option Value × ej_H) = (some (Value.int z.1), (ej_sh, z.2))) hf rfl (fun _ h => h))
