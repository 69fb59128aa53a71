def f_X10_isWeight (v0 : Int32) (m : ej_M) : Option (Int32 × ej_M) :=
  if v0 < 1 then
    some (0, m)
  else
    if 99 < v0 then
      some (0, m)
    else
      some (1, m)
set_option maxHeartbeats 4000000 in
set_option maxRecDepth 100000 in
theorem b_X10_isWeight (d : Nat) (v0 : Int32) (m : ej_M) {x : (Int32 × ej_M)} {res : Option Value × ej_H} {K : (Int32 × ej_M) → Prop} (hf : f_X10_isWeight v0 m = some x) (hK : K x) (h0 : ∀ q : (Int32 × ej_M), K q → res = (some (Value.int q.1), (ej_sh, q.2))) : ej_Z cX10_isWeight 1 (some .boolean) RX10 "isWeight" d 0 [(0, .int v0)] [] (ej_sh, m) res := by
  unfold f_X10_isWeight at hf
  refine z_iload_n (pc := 0) (i := 0) (j := 0) dX10_isWeight_0 rfl rfl ?_
  refine z_iconst (pc := 1) dX10_isWeight_1 ki_1 ?_
  refine z_icmp_lt (pc := 2) (tgt := 15) dX10_isWeight_2 (by decide) (fun hc => ?_) (fun hc => ?_)
  · rw [if_pos hc] at hf
    refine z_iconst (pc := 15) dX10_isWeight_15 ki_0 ?_
    obtain rfl := Option.some.inj hf
    rw [h0 _ hK]
    exact z_iret dX10_isWeight_16 rfl rfl
  · rw [if_neg hc] at hf
    refine z_iload_n (pc := 5) (i := 0) (j := 0) dX10_isWeight_5 rfl rfl ?_
    refine z_bipush (pc := 6) dX10_isWeight_6 kb_99 ?_
    refine z_icmp_gt (pc := 8) (tgt := 15) dX10_isWeight_8 (by decide) (fun hc => ?_) (fun hc => ?_)
    · rw [if_pos hc] at hf
      refine z_iconst (pc := 15) dX10_isWeight_15 ki_0 ?_
      obtain rfl := Option.some.inj hf
      rw [h0 _ hK]
      exact z_iret dX10_isWeight_16 rfl rfl
    · rw [if_neg hc] at hf
      refine z_iconst (pc := 11) dX10_isWeight_11 ki_1 ?_
      refine z_goto (pc := 12) (tgt := 16) dX10_isWeight_12 (by decide) ?_
      obtain rfl := Option.some.inj hf
      rw [h0 _ hK]
      exact z_iret dX10_isWeight_16 rfl rfl
set_option maxHeartbeats 4000000 in
set_option maxRecDepth 100000 in
theorem c_X10_isWeight (d : Nat) (hd : 0 ≤ d) (v0 : Int32) (m : ej_M) {q : (Int32 × ej_M)} (hf : f_X10_isWeight v0 m = some q) : ej_Ct yX10_isWeight cX10_isWeight 1 (some .boolean) d [.int v0] (ej_sh, m) ((some (Value.int q.1), (ej_sh, q.2)) : Option Value × ej_H) := by
  exact z_met (by decide +kernel) (Nat.le_of_ble_eq_true rfl) (b_X10_isWeight d v0 m (K := fun z => ((some (Value.int q.1), (ej_sh, q.2)) : Option Value × ej_H) = (some (Value.int z.1), (ej_sh, z.2))) hf rfl (fun _ h => h))
def f_X10_lay (v0 : Nat) (v1 : Int32) (v2 : Int32) (m : ej_M) : Option (Unit × ej_M) :=
  if v1 < 0 then
    some ((), m)
  else
    (oj_ln m v0).bind fun w1 =>
    if w1 ≤ v1 then
      some ((), m)
    else
      (oj_st 0 m v0 v1 v2).bind fun m2 =>
      some ((), m2)
set_option maxHeartbeats 4000000 in
set_option maxRecDepth 100000 in
theorem b_X10_lay (d : Nat) (v0 : Nat) (v1 : Int32) (v2 : Int32) (m : ej_M) {x : (Unit × ej_M)} {res : Option Value × ej_H} {K : (Unit × ej_M) → Prop} (hf : f_X10_lay v0 v1 v2 m = some x) (hK : K x) (h0 : ∀ q : (Unit × ej_M), K q → res = (none, (ej_sh, q.2))) : ej_Z cX10_lay 3 none RX10 "lay" d 0 [(0, .ref v0), (1, .int v1), (2, .int v2)] [] (ej_sh, m) res := by
  unfold f_X10_lay at hf
  refine z_iload_n (pc := 0) (i := 1) (j := 1) dX10_lay_0 rfl rfl ?_
  refine z_if_lt (pc := 1) (tgt := 14) dX10_lay_1 (by decide) (fun hc => ?_) (fun hc => ?_)
  · rw [if_pos hc] at hf
    obtain rfl := Option.some.inj hf
    rw [h0 _ hK]
    exact z_ret dX10_lay_14 rfl
  · rw [if_neg hc] at hf
    refine z_iload_n (pc := 4) (i := 1) (j := 1) dX10_lay_4 rfl rfl ?_
    refine z_aload_n (pc := 5) (i := 0) (j := 0) dX10_lay_5 rfl rfl ?_
    obtain ⟨w1, hw1, hf⟩ := Option.bind_eq_some_iff.mp hf
    refine z_oalen (pc := 6) dX10_lay_6 hw1 ?_
    refine z_icmp_ge (pc := 7) (tgt := 14) dX10_lay_7 (by decide) (fun hc => ?_) (fun hc => ?_)
    · rw [if_pos hc] at hf
      obtain rfl := Option.some.inj hf
      rw [h0 _ hK]
      exact z_ret dX10_lay_14 rfl
    · rw [if_neg hc] at hf
      refine z_aload_n (pc := 10) (i := 0) (j := 0) dX10_lay_10 rfl rfl ?_
      refine z_iload_n (pc := 11) (i := 1) (j := 1) dX10_lay_11 rfl rfl ?_
      refine z_iload_n (pc := 12) (i := 2) (j := 2) dX10_lay_12 rfl rfl ?_
      obtain ⟨m2, hm2, hf⟩ := Option.bind_eq_some_iff.mp hf
      refine z_oiast (pc := 13) dX10_lay_13 hm2 ?_
      obtain rfl := Option.some.inj hf
      rw [h0 _ hK]
      exact z_ret dX10_lay_14 rfl
set_option maxHeartbeats 4000000 in
set_option maxRecDepth 100000 in
theorem c_X10_lay (d : Nat) (hd : 0 ≤ d) (v0 : Nat) (v1 : Int32) (v2 : Int32) (m : ej_M) {q : (Unit × ej_M)} (hf : f_X10_lay v0 v1 v2 m = some q) : ej_Ct yX10_lay cX10_lay 3 none d [.ref v0, .int v1, .int v2] (ej_sh, m) ((none, (ej_sh, q.2)) : Option Value × ej_H) := by
  exact z_met (by decide +kernel) (Nat.le_of_ble_eq_true rfl) (b_X10_lay d v0 v1 v2 m (K := fun z => ((none, (ej_sh, q.2)) : Option Value × ej_H) = (none, (ej_sh, z.2))) hf rfl (fun _ h => h))
def f_X4_judgeAnew  (m : ej_M) : Option (Unit × ej_M) :=
  (oj_pf m 6 14 ((m.1 6 14) + 1)).bind fun m1 =>
  some ((), m1)
set_option maxHeartbeats 4000000 in
set_option maxRecDepth 100000 in
theorem b_X4_judgeAnew (d : Nat)  (m : ej_M) {x : (Unit × ej_M)} {res : Option Value × ej_H} {K : (Unit × ej_M) → Prop} (hf : f_X4_judgeAnew  m = some x) (hK : K x) (h0 : ∀ q : (Unit × ej_M), K q → res = (none, (ej_sh, q.2))) : ej_Z cX4_judgeAnew 1 none RX4 "judgeAnew" d 0 [(0, .ref 6)] [] (ej_sh, m) res := by
  unfold f_X4_judgeAnew at hf
  refine z_aload_n (pc := 0) (i := 0) (j := 0) dX4_judgeAnew_0 rfl rfl ?_
  refine z_dup (pc := 1) dX4_judgeAnew_1 rfl ?_
  refine z_ogetI (pc := 2) dX4_judgeAnew_2 lf_RX4_24 sh_6 rfl rfl ?_
  refine z_iconst (pc := 5) dX4_judgeAnew_5 ki_1 ?_
  refine z_iadd (pc := 6) dX4_judgeAnew_6 ?_
  obtain ⟨m1, hm1, hf⟩ := Option.bind_eq_some_iff.mp hf
  refine z_oputI (pc := 7) dX4_judgeAnew_7 lf_RX4_24 sh_6 rfl hm1 ?_
  obtain rfl := Option.some.inj hf
  rw [h0 _ hK]
  exact z_ret dX4_judgeAnew_10 rfl
set_option maxHeartbeats 4000000 in
set_option maxRecDepth 100000 in
theorem c_X4_judgeAnew (d : Nat) (hd : 0 ≤ d)  (m : ej_M) {q : (Unit × ej_M)} (hf : f_X4_judgeAnew  m = some q) : ej_Ct yX4_judgeAnew cX4_judgeAnew 1 none d [.ref 6] (ej_sh, m) ((none, (ej_sh, q.2)) : Option Value × ej_H) := by
  exact z_met (by decide +kernel) (Nat.le_of_ble_eq_true rfl) (b_X4_judgeAnew d  m (K := fun z => ((none, (ej_sh, q.2)) : Option Value × ej_H) = (none, (ej_sh, z.2))) hf rfl (fun _ h => h))
def f_X4_weigh (v1 : Int32) (v2 : Int32) (m : ej_M) : Option (Unit × ej_M) :=
  (f_X10_lay 7 v1 v2 m).bind fun q1 =>
  if v1 = 8 then
    some ((), q1.2)
  else
    (f_X4_judgeAnew q1.2).bind fun q2 =>
    some ((), q2.2)
set_option maxHeartbeats 4000000 in
set_option maxRecDepth 100000 in
theorem b_X4_weigh (e : Nat) (hd : 0 ≤ e) (v1 : Int32) (v2 : Int32) (m : ej_M) {x : (Unit × ej_M)} {res : Option Value × ej_H} {K : (Unit × ej_M) → Prop} (hf : f_X4_weigh v1 v2 m = some x) (hK : K x) (h0 : ∀ q : (Unit × ej_M), K q → res = (none, (ej_sh, q.2))) : ej_Z cX4_weigh 3 none RX4 "weigh" (e + 1) 0 [(0, .ref 6), (1, .int v1), (2, .int v2)] [] (ej_sh, m) res := by
  unfold f_X4_weigh at hf
  refine z_aload_n (pc := 0) (i := 0) (j := 0) dX4_weigh_0 rfl rfl ?_
  refine z_ogetR (pc := 1) dX4_weigh_1 lf_RX4_9 sh_6 rfl rfl rfl ?_
  refine z_iload_n (pc := 4) (i := 1) (j := 1) dX4_weigh_4 rfl rfl ?_
  refine z_iload_n (pc := 5) (i := 2) (j := 2) dX4_weigh_5 rfl rfl ?_
  obtain ⟨q1, hq1, hf⟩ := Option.bind_eq_some_iff.mp hf
  refine z_oSv (pc := 6) (as := [.ref 7, .int v1, .int v2]) (rest := []) dX4_weigh_6 lm_RX4_50 mf_X10_lay ms_X10_lay rfl rfl (Nat.le_of_ble_eq_true rfl) (c_X10_lay e (by omega) 7 v1 v2 m hq1) ?_
  refine z_iload_n (pc := 9) (i := 1) (j := 1) dX4_weigh_9 rfl rfl ?_
  refine z_bipush (pc := 10) dX4_weigh_10 kb_8 ?_
  refine z_icmp_eq (pc := 12) (tgt := 19) dX4_weigh_12 (by decide) (fun hc => ?_) (fun hc => ?_)
  · rw [if_pos hc] at hf
    obtain rfl := Option.some.inj hf
    rw [h0 _ hK]
    exact z_ret dX4_weigh_19 rfl
  · rw [if_neg hc] at hf
    refine z_aload_n (pc := 15) (i := 0) (j := 0) dX4_weigh_15 rfl rfl ?_
    obtain ⟨q2, hq2, hf⟩ := Option.bind_eq_some_iff.mp hf
    refine z_oVv (pc := 16) (as := []) (rest := []) dX4_weigh_16 lm_RX4_54 mf_X4_judgeAnew mi_X4_judgeAnew mv_X4_judgeAnew rc_6 rfl rfl (Nat.le_of_ble_eq_true rfl) (c_X4_judgeAnew e (by omega) q1.2 hq2) ?_
    obtain rfl := Option.some.inj hf
    rw [h0 _ hK]
    exact z_ret dX4_weigh_19 rfl
set_option maxHeartbeats 4000000 in
set_option maxRecDepth 100000 in
theorem c_X4_weigh (d : Nat) (hd : 1 ≤ d) (v1 : Int32) (v2 : Int32) (m : ej_M) {q : (Unit × ej_M)} (hf : f_X4_weigh v1 v2 m = some q) : ej_Ct yX4_weigh cX4_weigh 3 none d [.ref 6, .int v1, .int v2] (ej_sh, m) ((none, (ej_sh, q.2)) : Option Value × ej_H) := by
  obtain ⟨e, rfl⟩ : ∃ e, d = e + 1 := ⟨d - 1, by omega⟩
  exact z_met (by decide +kernel) (Nat.le_of_ble_eq_true rfl) (b_X4_weigh e (by omega) v1 v2 m (K := fun z => ((none, (ej_sh, q.2)) : Option Value × ej_H) = (none, (ej_sh, z.2))) hf rfl (fun _ h => h))
def f_X4_bring (v1 : Int32) (m : ej_M) : Option (Int32 × ej_M) :=
  (f_X10_isWeight v1 m).bind fun q1 =>
  if q1.1 = 0 then
    some ((-1), q1.2)
  else
    if (q1.2.1 6 2) < 8 then
      (f_X4_weigh (q1.2.1 6 2) v1 q1.2).bind fun q2 =>
      (oj_pf q2.2 6 2 ((q2.2.1 6 2) + 1)).bind fun m3 =>
      some (((m3.1 6 2) - 1), m3)
    else
      some ((-3), q1.2)
set_option maxHeartbeats 4000000 in
set_option maxRecDepth 100000 in
theorem b_X4_bring (e : Nat) (hd : 1 ≤ e) (v1 : Int32) (m : ej_M) {x : (Int32 × ej_M)} {res : Option Value × ej_H} {K : (Int32 × ej_M) → Prop} (hf : f_X4_bring v1 m = some x) (hK : K x) (h0 : ∀ q : (Int32 × ej_M), K q → res = (some (Value.int q.1), (ej_sh, q.2))) : ej_Z cX4_bring 2 (some .int) RX4 "bring" (e + 1) 0 [(0, .ref 6), (1, .int v1)] [] (ej_sh, m) res := by
  unfold f_X4_bring at hf
  refine z_iload_n (pc := 0) (i := 1) (j := 1) dX4_bring_0 rfl rfl ?_
  obtain ⟨q1, hq1, hf⟩ := Option.bind_eq_some_iff.mp hf
  refine z_oSi (pc := 1) (as := [.int v1]) (rest := []) dX4_bring_1 lm_RX4_32 mf_X10_isWeight ms_X10_isWeight rfl rfl (Nat.le_of_ble_eq_true rfl) (c_X10_isWeight e (by omega) v1 m hq1) ?_
  refine z_if_ne (pc := 4) (tgt := 9) dX4_bring_4 (by decide) (fun hc => ?_) (fun hc => ?_)
  · rw [if_neg hc] at hf
    refine z_aload_n (pc := 9) (i := 0) (j := 0) dX4_bring_9 rfl rfl ?_
    refine z_ogetI (pc := 10) dX4_bring_10 lf_RX4_36 sh_6 rfl rfl ?_
    refine z_bipush (pc := 13) dX4_bring_13 kb_8 ?_
    refine z_icmp_lt (pc := 15) (tgt := 21) dX4_bring_15 (by decide) (fun hc => ?_) (fun hc => ?_)
    · rw [if_pos hc] at hf
      refine z_aload_n (pc := 21) (i := 0) (j := 0) dX4_bring_21 rfl rfl ?_
      refine z_aload_n (pc := 22) (i := 0) (j := 0) dX4_bring_22 rfl rfl ?_
      refine z_ogetI (pc := 23) dX4_bring_23 lf_RX4_36 sh_6 rfl rfl ?_
      refine z_iload_n (pc := 26) (i := 1) (j := 1) dX4_bring_26 rfl rfl ?_
      obtain ⟨q2, hq2, hf⟩ := Option.bind_eq_some_iff.mp hf
      refine z_oVv (pc := 27) (as := [.int (q1.2.1 6 2), .int v1]) (rest := []) dX4_bring_27 lm_RX4_39 mf_X4_weigh mi_X4_weigh mv_X4_weigh rc_6 rfl rfl (Nat.le_of_ble_eq_true rfl) (c_X4_weigh e (by omega) (q1.2.1 6 2) v1 q1.2 hq2) ?_
      refine z_aload_n (pc := 30) (i := 0) (j := 0) dX4_bring_30 rfl rfl ?_
      refine z_dup (pc := 31) dX4_bring_31 rfl ?_
      refine z_ogetI (pc := 32) dX4_bring_32 lf_RX4_36 sh_6 rfl rfl ?_
      refine z_iconst (pc := 35) dX4_bring_35 ki_1 ?_
      refine z_iadd (pc := 36) dX4_bring_36 ?_
      obtain ⟨m3, hm3, hf⟩ := Option.bind_eq_some_iff.mp hf
      refine z_oputI (pc := 37) dX4_bring_37 lf_RX4_36 sh_6 rfl hm3 ?_
      refine z_aload_n (pc := 40) (i := 0) (j := 0) dX4_bring_40 rfl rfl ?_
      refine z_ogetI (pc := 41) dX4_bring_41 lf_RX4_36 sh_6 rfl rfl ?_
      refine z_iconst (pc := 44) dX4_bring_44 ki_1 ?_
      refine z_isub (pc := 45) dX4_bring_45 ?_
      obtain rfl := Option.some.inj hf
      rw [h0 _ hK]
      exact z_iret dX4_bring_46 rfl rfl
    · rw [if_neg hc] at hf
      refine z_bipush (pc := 18) dX4_bring_18 kb_n3 ?_
      obtain rfl := Option.some.inj hf
      rw [h0 _ hK]
      exact z_iret dX4_bring_20 rfl rfl
  · rw [if_pos hc] at hf
    refine z_iconst (pc := 7) dX4_bring_7 ki_n1 ?_
    obtain rfl := Option.some.inj hf
    rw [h0 _ hK]
    exact z_iret dX4_bring_8 rfl rfl
set_option maxHeartbeats 4000000 in
set_option maxRecDepth 100000 in
theorem c_X4_bring (d : Nat) (hd : 2 ≤ d) (v1 : Int32) (m : ej_M) {q : (Int32 × ej_M)} (hf : f_X4_bring v1 m = some q) : ej_Ct yX4_bring cX4_bring 2 (some .int) d [.ref 6, .int v1] (ej_sh, m) ((some (Value.int q.1), (ej_sh, q.2)) : Option Value × ej_H) := by
  obtain ⟨e, rfl⟩ : ∃ e, d = e + 1 := ⟨d - 1, by omega⟩
  exact z_met (by decide +kernel) (Nat.le_of_ble_eq_true rfl) (b_X4_bring e (by omega) v1 m (K := fun z => ((some (Value.int q.1), (ej_sh, q.2)) : Option Value × ej_H) = (some (Value.int z.1), (ej_sh, z.2))) hf rfl (fun _ h => h))
def f_X10_stone (v1 : Int32) (m : ej_M) : Option (Int32 × ej_M) :=
  (f_X4_bring v1 m).bind fun q1 =>
  some (q1.1, q1.2)
set_option maxHeartbeats 4000000 in
set_option maxRecDepth 100000 in
theorem b_X10_stone (e : Nat) (hd : 2 ≤ e) (v1 : Int32) (m : ej_M) {x : (Int32 × ej_M)} {res : Option Value × ej_H} {K : (Int32 × ej_M) → Prop} (hf : f_X10_stone v1 m = some x) (hK : K x) (h0 : ∀ q : (Int32 × ej_M), K q → res = (some (Value.int q.1), (ej_sh, q.2))) : ej_Z cX10_stone 2 (some .int) RX10 "stone" (e + 1) 0 [(0, .ref 0), (1, .int v1)] [] (ej_sh, m) res := by
  unfold f_X10_stone at hf
  refine z_aload_n (pc := 0) (i := 0) (j := 0) dX10_stone_0 rfl rfl ?_
  refine z_ogetR (pc := 1) dX10_stone_1 lf_RX10_21 sh_0 rfl rfl rfl ?_
  refine z_iload_n (pc := 4) (i := 1) (j := 1) dX10_stone_4 rfl rfl ?_
  obtain ⟨q1, hq1, hf⟩ := Option.bind_eq_some_iff.mp hf
  refine z_oVi (pc := 5) (as := [.int v1]) (rest := []) dX10_stone_5 lm_RX10_83 mf_X4_bring mi_X4_bring mv_X4_bring rc_6 rfl rfl (Nat.le_of_ble_eq_true rfl) (c_X4_bring e (by omega) v1 m hq1) ?_
  obtain rfl := Option.some.inj hf
  rw [h0 _ hK]
  exact z_iret dX10_stone_8 rfl rfl
set_option maxHeartbeats 4000000 in
set_option maxRecDepth 100000 in
theorem c_X10_stone (d : Nat) (hd : 3 ≤ d) (v1 : Int32) (m : ej_M) {q : (Int32 × ej_M)} (hf : f_X10_stone v1 m = some q) : ej_Ct yX10_stone cX10_stone 2 (some .int) d [.ref 0, .int v1] (ej_sh, m) ((some (Value.int q.1), (ej_sh, q.2)) : Option Value × ej_H) := by
  obtain ⟨e, rfl⟩ : ∃ e, d = e + 1 := ⟨d - 1, by omega⟩
  exact z_met (by decide +kernel) (Nat.le_of_ble_eq_true rfl) (b_X10_stone e (by omega) v1 m (K := fun z => ((some (Value.int q.1), (ej_sh, q.2)) : Option Value × ej_H) = (some (Value.int z.1), (ej_sh, z.2))) hf rfl (fun _ h => h))
def f_X11_addStone (v1 : Int32) (m : ej_M) : Option (Int32 × ej_M) :=
  (oj_st 0 m 42 (m.1 41 1) v1).bind fun m1 =>
  (oj_pf m1 41 1 ((m1.1 41 1) + 1)).bind fun m2 =>
  some (((m2.1 41 1) - 1), m2)
set_option maxHeartbeats 4000000 in
set_option maxRecDepth 100000 in
theorem b_X11_addStone (d : Nat) (v1 : Int32) (m : ej_M) {x : (Int32 × ej_M)} {res : Option Value × ej_H} {K : (Int32 × ej_M) → Prop} (hf : f_X11_addStone v1 m = some x) (hK : K x) (h0 : ∀ q : (Int32 × ej_M), K q → res = (some (Value.int q.1), (ej_sh, q.2))) : ej_Z cX11_addStone 2 (some .int) RX11 "addStone" d 0 [(0, .ref 41), (1, .int v1)] [] (ej_sh, m) res := by
  unfold f_X11_addStone at hf
  refine z_aload_n (pc := 0) (i := 0) (j := 0) dX11_addStone_0 rfl rfl ?_
  refine z_ogetR (pc := 1) dX11_addStone_1 lf_RX11_7 sh_41 rfl rfl rfl ?_
  refine z_aload_n (pc := 4) (i := 0) (j := 0) dX11_addStone_4 rfl rfl ?_
  refine z_ogetI (pc := 5) dX11_addStone_5 lf_RX11_101 sh_41 rfl rfl ?_
  refine z_iload_n (pc := 8) (i := 1) (j := 1) dX11_addStone_8 rfl rfl ?_
  obtain ⟨m1, hm1, hf⟩ := Option.bind_eq_some_iff.mp hf
  refine z_oiast (pc := 9) dX11_addStone_9 hm1 ?_
  refine z_aload_n (pc := 10) (i := 0) (j := 0) dX11_addStone_10 rfl rfl ?_
  refine z_dup (pc := 11) dX11_addStone_11 rfl ?_
  refine z_ogetI (pc := 12) dX11_addStone_12 lf_RX11_101 sh_41 rfl rfl ?_
  refine z_iconst (pc := 15) dX11_addStone_15 ki_1 ?_
  refine z_iadd (pc := 16) dX11_addStone_16 ?_
  obtain ⟨m2, hm2, hf⟩ := Option.bind_eq_some_iff.mp hf
  refine z_oputI (pc := 17) dX11_addStone_17 lf_RX11_101 sh_41 rfl hm2 ?_
  refine z_aload_n (pc := 20) (i := 0) (j := 0) dX11_addStone_20 rfl rfl ?_
  refine z_ogetI (pc := 21) dX11_addStone_21 lf_RX11_101 sh_41 rfl rfl ?_
  refine z_iconst (pc := 24) dX11_addStone_24 ki_1 ?_
  refine z_isub (pc := 25) dX11_addStone_25 ?_
  obtain rfl := Option.some.inj hf
  rw [h0 _ hK]
  exact z_iret dX11_addStone_26 rfl rfl
set_option maxHeartbeats 4000000 in
set_option maxRecDepth 100000 in
theorem c_X11_addStone (d : Nat) (hd : 0 ≤ d) (v1 : Int32) (m : ej_M) {q : (Int32 × ej_M)} (hf : f_X11_addStone v1 m = some q) : ej_Ct yX11_addStone cX11_addStone 2 (some .int) d [.ref 41, .int v1] (ej_sh, m) ((some (Value.int q.1), (ej_sh, q.2)) : Option Value × ej_H) := by
  exact z_met (by decide +kernel) (Nat.le_of_ble_eq_true rfl) (b_X11_addStone d v1 m (K := fun z => ((some (Value.int q.1), (ej_sh, q.2)) : Option Value × ej_H) = (some (Value.int z.1), (ej_sh, z.2))) hf rfl (fun _ h => h))
def f_X11_in (v0 : Int32) (v1 : Int32) (v2 : Int32) (m : ej_M) : Option (Int32 × ej_M) :=
  if v0 < v1 then
    some (0, m)
  else
    if v2 < v0 then
      some (0, m)
    else
      some (1, m)
set_option maxHeartbeats 4000000 in
set_option maxRecDepth 100000 in
theorem b_X11_in (d : Nat) (v0 : Int32) (v1 : Int32) (v2 : Int32) (m : ej_M) {x : (Int32 × ej_M)} {res : Option Value × ej_H} {K : (Int32 × ej_M) → Prop} (hf : f_X11_in v0 v1 v2 m = some x) (hK : K x) (h0 : ∀ q : (Int32 × ej_M), K q → res = (some (Value.int q.1), (ej_sh, q.2))) : ej_Z cX11_in 3 (some .boolean) RX11 "in" d 0 [(0, .int v0), (1, .int v1), (2, .int v2)] [] (ej_sh, m) res := by
  unfold f_X11_in at hf
  refine z_iload_n (pc := 0) (i := 0) (j := 0) dX11_in_0 rfl rfl ?_
  refine z_iload_n (pc := 1) (i := 1) (j := 1) dX11_in_1 rfl rfl ?_
  refine z_icmp_lt (pc := 2) (tgt := 14) dX11_in_2 (by decide) (fun hc => ?_) (fun hc => ?_)
  · rw [if_pos hc] at hf
    refine z_iconst (pc := 14) dX11_in_14 ki_0 ?_
    obtain rfl := Option.some.inj hf
    rw [h0 _ hK]
    exact z_iret dX11_in_15 rfl rfl
  · rw [if_neg hc] at hf
    refine z_iload_n (pc := 5) (i := 0) (j := 0) dX11_in_5 rfl rfl ?_
    refine z_iload_n (pc := 6) (i := 2) (j := 2) dX11_in_6 rfl rfl ?_
    refine z_icmp_gt (pc := 7) (tgt := 14) dX11_in_7 (by decide) (fun hc => ?_) (fun hc => ?_)
    · rw [if_pos hc] at hf
      refine z_iconst (pc := 14) dX11_in_14 ki_0 ?_
      obtain rfl := Option.some.inj hf
      rw [h0 _ hK]
      exact z_iret dX11_in_15 rfl rfl
    · rw [if_neg hc] at hf
      refine z_iconst (pc := 10) dX11_in_10 ki_1 ?_
      refine z_goto (pc := 11) (tgt := 15) dX11_in_11 (by decide) ?_
      obtain rfl := Option.some.inj hf
      rw [h0 _ hK]
      exact z_iret dX11_in_15 rfl rfl
set_option maxHeartbeats 4000000 in
set_option maxRecDepth 100000 in
theorem c_X11_in (d : Nat) (hd : 0 ≤ d) (v0 : Int32) (v1 : Int32) (v2 : Int32) (m : ej_M) {q : (Int32 × ej_M)} (hf : f_X11_in v0 v1 v2 m = some q) : ej_Ct yX11_in cX11_in 3 (some .boolean) d [.int v0, .int v1, .int v2] (ej_sh, m) ((some (Value.int q.1), (ej_sh, q.2)) : Option Value × ej_H) := by
  exact z_met (by decide +kernel) (Nat.le_of_ble_eq_true rfl) (b_X11_in d v0 v1 v2 m (K := fun z => ((some (Value.int q.1), (ej_sh, q.2)) : Option Value × ej_H) = (some (Value.int z.1), (ej_sh, z.2))) hf rfl (fun _ h => h))
def f_X11_stone (v1 : Int32) (m : ej_M) : Option (Int32 × ej_M) :=
  (f_X11_in v1 1 99 m).bind fun q1 =>
  if q1.1 = 0 then
    some ((-1), q1.2)
  else
    if (q1.2.1 41 1) = 8 then
      some ((-3), q1.2)
    else
      (f_X11_addStone v1 q1.2).bind fun q2 =>
      some (q2.1, q2.2)
set_option maxHeartbeats 4000000 in
set_option maxRecDepth 100000 in
theorem b_X11_stone (e : Nat) (hd : 0 ≤ e) (v1 : Int32) (m : ej_M) {x : (Int32 × ej_M)} {res : Option Value × ej_H} {K : (Int32 × ej_M) → Prop} (hf : f_X11_stone v1 m = some x) (hK : K x) (h0 : ∀ q : (Int32 × ej_M), K q → res = (some (Value.int q.1), (ej_sh, q.2))) : ej_Z cX11_stone 2 (some .int) RX11 "stone" (e + 1) 0 [(0, .ref 41), (1, .int v1)] [] (ej_sh, m) res := by
  unfold f_X11_stone at hf
  refine z_iload_n (pc := 0) (i := 1) (j := 1) dX11_stone_0 rfl rfl ?_
  refine z_iconst (pc := 1) dX11_stone_1 ki_1 ?_
  refine z_bipush (pc := 2) dX11_stone_2 kb_99 ?_
  obtain ⟨q1, hq1, hf⟩ := Option.bind_eq_some_iff.mp hf
  refine z_oSi (pc := 4) (as := [.int v1, .int 1, .int 99]) (rest := []) dX11_stone_4 lm_RX11_104 mf_X11_in ms_X11_in rfl rfl (Nat.le_of_ble_eq_true rfl) (c_X11_in e (by omega) v1 1 99 m hq1) ?_
  refine z_if_ne (pc := 7) (tgt := 12) dX11_stone_7 (by decide) (fun hc => ?_) (fun hc => ?_)
  · rw [if_neg hc] at hf
    refine z_aload_n (pc := 12) (i := 0) (j := 0) dX11_stone_12 rfl rfl ?_
    refine z_ogetI (pc := 13) dX11_stone_13 lf_RX11_101 sh_41 rfl rfl ?_
    refine z_bipush (pc := 16) dX11_stone_16 kb_8 ?_
    refine z_icmp_ne (pc := 18) (tgt := 26) dX11_stone_18 (by decide) (fun hc => ?_) (fun hc => ?_)
    · rw [if_neg hc] at hf
      refine z_aload_n (pc := 26) (i := 0) (j := 0) dX11_stone_26 rfl rfl ?_
      refine z_iload_n (pc := 27) (i := 1) (j := 1) dX11_stone_27 rfl rfl ?_
      obtain ⟨q2, hq2, hf⟩ := Option.bind_eq_some_iff.mp hf
      refine z_oVi (pc := 28) (as := [.int v1]) (rest := []) dX11_stone_28 lm_RX11_111 mf_X11_addStone mi_X11_addStone mv_X11_addStone rc_41 rfl rfl (Nat.le_of_ble_eq_true rfl) (c_X11_addStone e (by omega) v1 q1.2 hq2) ?_
      obtain rfl := Option.some.inj hf
      rw [h0 _ hK]
      exact z_iret dX11_stone_31 rfl rfl
    · rw [if_pos hc] at hf
      refine z_bipush (pc := 21) dX11_stone_21 kb_n3 ?_
      refine z_goto (pc := 23) (tgt := 31) dX11_stone_23 (by decide) ?_
      obtain rfl := Option.some.inj hf
      rw [h0 _ hK]
      exact z_iret dX11_stone_31 rfl rfl
  · rw [if_pos hc] at hf
    refine z_iconst (pc := 10) dX11_stone_10 ki_n1 ?_
    obtain rfl := Option.some.inj hf
    rw [h0 _ hK]
    exact z_iret dX11_stone_11 rfl rfl
set_option maxHeartbeats 4000000 in
set_option maxRecDepth 100000 in
theorem c_X11_stone (d : Nat) (hd : 1 ≤ d) (v1 : Int32) (m : ej_M) {q : (Int32 × ej_M)} (hf : f_X11_stone v1 m = some q) : ej_Ct yX11_stone cX11_stone 2 (some .int) d [.ref 41, .int v1] (ej_sh, m) ((some (Value.int q.1), (ej_sh, q.2)) : Option Value × ej_H) := by
  obtain ⟨e, rfl⟩ : ∃ e, d = e + 1 := ⟨d - 1, by omega⟩
  exact z_met (by decide +kernel) (Nat.le_of_ble_eq_true rfl) (b_X11_stone e (by omega) v1 m (K := fun z => ((some (Value.int q.1), (ej_sh, q.2)) : Option Value × ej_H) = (some (Value.int z.1), (ej_sh, z.2))) hf rfl (fun _ h => h))
def f_X6_has (v1 : Int32) (m : ej_M) : Option (Int32 × ej_M) :=
  if v1 < 0 then
    some (0, m)
  else
    if 6 ≤ v1 then
      some (0, m)
    else
      some (1, m)
set_option maxHeartbeats 4000000 in
set_option maxRecDepth 100000 in
theorem b_X6_has (d : Nat) (v1 : Int32) (m : ej_M) {x : (Int32 × ej_M)} {res : Option Value × ej_H} {K : (Int32 × ej_M) → Prop} (hf : f_X6_has v1 m = some x) (hK : K x) (h0 : ∀ q : (Int32 × ej_M), K q → res = (some (Value.int q.1), (ej_sh, q.2))) : ej_Z cX6_has 2 (some .boolean) RX6 "has" d 0 [(0, .ref 37), (1, .int v1)] [] (ej_sh, m) res := by
  unfold f_X6_has at hf
  refine z_iload_n (pc := 0) (i := 1) (j := 1) dX6_has_0 rfl rfl ?_
  refine z_if_lt (pc := 1) (tgt := 14) dX6_has_1 (by decide) (fun hc => ?_) (fun hc => ?_)
  · rw [if_pos hc] at hf
    refine z_iconst (pc := 14) dX6_has_14 ki_0 ?_
    obtain rfl := Option.some.inj hf
    rw [h0 _ hK]
    exact z_iret dX6_has_15 rfl rfl
  · rw [if_neg hc] at hf
    refine z_iload_n (pc := 4) (i := 1) (j := 1) dX6_has_4 rfl rfl ?_
    refine z_bipush (pc := 5) dX6_has_5 kb_6 ?_
    refine z_icmp_ge (pc := 7) (tgt := 14) dX6_has_7 (by decide) (fun hc => ?_) (fun hc => ?_)
    · rw [if_pos hc] at hf
      refine z_iconst (pc := 14) dX6_has_14 ki_0 ?_
      obtain rfl := Option.some.inj hf
      rw [h0 _ hK]
      exact z_iret dX6_has_15 rfl rfl
    · rw [if_neg hc] at hf
      refine z_iconst (pc := 10) dX6_has_10 ki_1 ?_
      refine z_goto (pc := 11) (tgt := 15) dX6_has_11 (by decide) ?_
      obtain rfl := Option.some.inj hf
      rw [h0 _ hK]
      exact z_iret dX6_has_15 rfl rfl
set_option maxHeartbeats 4000000 in
set_option maxRecDepth 100000 in
theorem c_X6_has (d : Nat) (hd : 0 ≤ d) (v1 : Int32) (m : ej_M) {q : (Int32 × ej_M)} (hf : f_X6_has v1 m = some q) : ej_Ct yX6_has cX6_has 2 (some .boolean) d [.ref 37, .int v1] (ej_sh, m) ((some (Value.int q.1), (ej_sh, q.2)) : Option Value × ej_H) := by
  exact z_met (by decide +kernel) (Nat.le_of_ble_eq_true rfl) (b_X6_has d v1 m (K := fun z => ((some (Value.int q.1), (ej_sh, q.2)) : Option Value × ej_H) = (some (Value.int z.1), (ej_sh, z.2))) hf rfl (fun _ h => h))
def f_X10_at (v0 : Nat) (v1 : Int32) (m : ej_M) : Option (Int32 × ej_M) :=
  if v1 < 0 then
    some (0, m)
  else
    (oj_ln m v0).bind fun w1 =>
    if w1 ≤ v1 then
      some (0, m)
    else
      (oj_ld 0 m v0 v1).bind fun w2 =>
      some (w2, m)
set_option maxHeartbeats 4000000 in
set_option maxRecDepth 100000 in
theorem b_X10_at (d : Nat) (v0 : Nat) (v1 : Int32) (m : ej_M) {x : (Int32 × ej_M)} {res : Option Value × ej_H} {K : (Int32 × ej_M) → Prop} (hf : f_X10_at v0 v1 m = some x) (hK : K x) (h0 : ∀ q : (Int32 × ej_M), K q → res = (some (Value.int q.1), (ej_sh, q.2))) : ej_Z cX10_at 2 (some .int) RX10 "at" d 0 [(0, .ref v0), (1, .int v1)] [] (ej_sh, m) res := by
  unfold f_X10_at at hf
  refine z_iload_n (pc := 0) (i := 1) (j := 1) dX10_at_0 rfl rfl ?_
  refine z_if_lt (pc := 1) (tgt := 16) dX10_at_1 (by decide) (fun hc => ?_) (fun hc => ?_)
  · rw [if_pos hc] at hf
    refine z_iconst (pc := 16) dX10_at_16 ki_0 ?_
    obtain rfl := Option.some.inj hf
    rw [h0 _ hK]
    exact z_iret dX10_at_17 rfl rfl
  · rw [if_neg hc] at hf
    refine z_iload_n (pc := 4) (i := 1) (j := 1) dX10_at_4 rfl rfl ?_
    refine z_aload_n (pc := 5) (i := 0) (j := 0) dX10_at_5 rfl rfl ?_
    obtain ⟨w1, hw1, hf⟩ := Option.bind_eq_some_iff.mp hf
    refine z_oalen (pc := 6) dX10_at_6 hw1 ?_
    refine z_icmp_ge (pc := 7) (tgt := 16) dX10_at_7 (by decide) (fun hc => ?_) (fun hc => ?_)
    · rw [if_pos hc] at hf
      refine z_iconst (pc := 16) dX10_at_16 ki_0 ?_
      obtain rfl := Option.some.inj hf
      rw [h0 _ hK]
      exact z_iret dX10_at_17 rfl rfl
    · rw [if_neg hc] at hf
      refine z_aload_n (pc := 10) (i := 0) (j := 0) dX10_at_10 rfl rfl ?_
      refine z_iload_n (pc := 11) (i := 1) (j := 1) dX10_at_11 rfl rfl ?_
      obtain ⟨w2, hw2, hf⟩ := Option.bind_eq_some_iff.mp hf
      refine z_oiald (pc := 12) dX10_at_12 hw2 ?_
      refine z_goto (pc := 13) (tgt := 17) dX10_at_13 (by decide) ?_
      obtain rfl := Option.some.inj hf
      rw [h0 _ hK]
      exact z_iret dX10_at_17 rfl rfl
set_option maxHeartbeats 4000000 in
set_option maxRecDepth 100000 in
theorem c_X10_at (d : Nat) (hd : 0 ≤ d) (v0 : Nat) (v1 : Int32) (m : ej_M) {q : (Int32 × ej_M)} (hf : f_X10_at v0 v1 m = some q) : ej_Ct yX10_at cX10_at 2 (some .int) d [.ref v0, .int v1] (ej_sh, m) ((some (Value.int q.1), (ej_sh, q.2)) : Option Value × ej_H) := by
  exact z_met (by decide +kernel) (Nat.le_of_ble_eq_true rfl) (b_X10_at d v0 v1 m (K := fun z => ((some (Value.int q.1), (ej_sh, q.2)) : Option Value × ej_H) = (some (Value.int z.1), (ej_sh, z.2))) hf rfl (fun _ h => h))
def f_X6_length (v1 : Int32) (m : ej_M) : Option (Int32 × ej_M) :=
  (f_X10_at 38 v1 m).bind fun q1 =>
  if q1.1 < 0 then
    some (0, q1.2)
  else
    (f_X10_at 39 v1 q1.2).bind fun q2 =>
    some (q2.1, q2.2)
set_option maxHeartbeats 4000000 in
set_option maxRecDepth 100000 in
theorem b_X6_length (e : Nat) (hd : 0 ≤ e) (v1 : Int32) (m : ej_M) {x : (Int32 × ej_M)} {res : Option Value × ej_H} {K : (Int32 × ej_M) → Prop} (hf : f_X6_length v1 m = some x) (hK : K x) (h0 : ∀ q : (Int32 × ej_M), K q → res = (some (Value.int q.1), (ej_sh, q.2))) : ej_Z cX6_length 2 (some .int) RX6 "length" (e + 1) 0 [(0, .ref 37), (1, .int v1)] [] (ej_sh, m) res := by
  unfold f_X6_length at hf
  refine z_aload_n (pc := 0) (i := 0) (j := 0) dX6_length_0 rfl rfl ?_
  refine z_ogetR (pc := 1) dX6_length_1 lf_RX6_11 sh_37 rfl rfl rfl ?_
  refine z_iload_n (pc := 4) (i := 1) (j := 1) dX6_length_4 rfl rfl ?_
  obtain ⟨q1, hq1, hf⟩ := Option.bind_eq_some_iff.mp hf
  refine z_oSi (pc := 5) (as := [.ref 38, .int v1]) (rest := []) dX6_length_5 lm_RX6_26 mf_X10_at ms_X10_at rfl rfl (Nat.le_of_ble_eq_true rfl) (c_X10_at e (by omega) 38 v1 m hq1) ?_
  refine z_if_lt (pc := 8) (tgt := 22) dX6_length_8 (by decide) (fun hc => ?_) (fun hc => ?_)
  · rw [if_pos hc] at hf
    refine z_iconst (pc := 22) dX6_length_22 ki_0 ?_
    obtain rfl := Option.some.inj hf
    rw [h0 _ hK]
    exact z_iret dX6_length_23 rfl rfl
  · rw [if_neg hc] at hf
    refine z_aload_n (pc := 11) (i := 0) (j := 0) dX6_length_11 rfl rfl ?_
    refine z_ogetR (pc := 12) dX6_length_12 lf_RX6_15 sh_37 rfl rfl rfl ?_
    refine z_iload_n (pc := 15) (i := 1) (j := 1) dX6_length_15 rfl rfl ?_
    obtain ⟨q2, hq2, hf⟩ := Option.bind_eq_some_iff.mp hf
    refine z_oSi (pc := 16) (as := [.ref 39, .int v1]) (rest := []) dX6_length_16 lm_RX6_26 mf_X10_at ms_X10_at rfl rfl (Nat.le_of_ble_eq_true rfl) (c_X10_at e (by omega) 39 v1 q1.2 hq2) ?_
    refine z_goto (pc := 19) (tgt := 23) dX6_length_19 (by decide) ?_
    obtain rfl := Option.some.inj hf
    rw [h0 _ hK]
    exact z_iret dX6_length_23 rfl rfl
set_option maxHeartbeats 4000000 in
set_option maxRecDepth 100000 in
theorem c_X6_length (d : Nat) (hd : 1 ≤ d) (v1 : Int32) (m : ej_M) {q : (Int32 × ej_M)} (hf : f_X6_length v1 m = some q) : ej_Ct yX6_length cX6_length 2 (some .int) d [.ref 37, .int v1] (ej_sh, m) ((some (Value.int q.1), (ej_sh, q.2)) : Option Value × ej_H) := by
  obtain ⟨e, rfl⟩ : ∃ e, d = e + 1 := ⟨d - 1, by omega⟩
  exact z_met (by decide +kernel) (Nat.le_of_ble_eq_true rfl) (b_X6_length e (by omega) v1 m (K := fun z => ((some (Value.int q.1), (ej_sh, q.2)) : Option Value × ej_H) = (some (Value.int z.1), (ej_sh, z.2))) hf rfl (fun _ h => h))
def f_X6_holdsBody (v1 : Int32) (m : ej_M) : Option (Int32 × ej_M) :=
  (f_X10_at 38 v1 m).bind fun q1 =>
  if q1.1 = (-1) then
    some (1, q1.2)
  else
    some (0, q1.2)
set_option maxHeartbeats 4000000 in
set_option maxRecDepth 100000 in
theorem b_X6_holdsBody (e : Nat) (hd : 0 ≤ e) (v1 : Int32) (m : ej_M) {x : (Int32 × ej_M)} {res : Option Value × ej_H} {K : (Int32 × ej_M) → Prop} (hf : f_X6_holdsBody v1 m = some x) (hK : K x) (h0 : ∀ q : (Int32 × ej_M), K q → res = (some (Value.int q.1), (ej_sh, q.2))) : ej_Z cX6_holdsBody 2 (some .boolean) RX6 "holdsBody" (e + 1) 0 [(0, .ref 37), (1, .int v1)] [] (ej_sh, m) res := by
  unfold f_X6_holdsBody at hf
  refine z_aload_n (pc := 0) (i := 0) (j := 0) dX6_holdsBody_0 rfl rfl ?_
  refine z_ogetR (pc := 1) dX6_holdsBody_1 lf_RX6_11 sh_37 rfl rfl rfl ?_
  refine z_iload_n (pc := 4) (i := 1) (j := 1) dX6_holdsBody_4 rfl rfl ?_
  obtain ⟨q1, hq1, hf⟩ := Option.bind_eq_some_iff.mp hf
  refine z_oSi (pc := 5) (as := [.ref 38, .int v1]) (rest := []) dX6_holdsBody_5 lm_RX6_26 mf_X10_at ms_X10_at rfl rfl (Nat.le_of_ble_eq_true rfl) (c_X10_at e (by omega) 38 v1 m hq1) ?_
  refine z_iconst (pc := 8) dX6_holdsBody_8 ki_n1 ?_
  refine z_icmp_ne (pc := 9) (tgt := 16) dX6_holdsBody_9 (by decide) (fun hc => ?_) (fun hc => ?_)
  · rw [if_neg hc] at hf
    refine z_iconst (pc := 16) dX6_holdsBody_16 ki_0 ?_
    obtain rfl := Option.some.inj hf
    rw [h0 _ hK]
    exact z_iret dX6_holdsBody_17 rfl rfl
  · rw [if_pos hc] at hf
    refine z_iconst (pc := 12) dX6_holdsBody_12 ki_1 ?_
    refine z_goto (pc := 13) (tgt := 17) dX6_holdsBody_13 (by decide) ?_
    obtain rfl := Option.some.inj hf
    rw [h0 _ hK]
    exact z_iret dX6_holdsBody_17 rfl rfl
set_option maxHeartbeats 4000000 in
set_option maxRecDepth 100000 in
theorem c_X6_holdsBody (d : Nat) (hd : 1 ≤ d) (v1 : Int32) (m : ej_M) {q : (Int32 × ej_M)} (hf : f_X6_holdsBody v1 m = some q) : ej_Ct yX6_holdsBody cX6_holdsBody 2 (some .boolean) d [.ref 37, .int v1] (ej_sh, m) ((some (Value.int q.1), (ej_sh, q.2)) : Option Value × ej_H) := by
  obtain ⟨e, rfl⟩ : ∃ e, d = e + 1 := ⟨d - 1, by omega⟩
  exact z_met (by decide +kernel) (Nat.le_of_ble_eq_true rfl) (b_X6_holdsBody e (by omega) v1 m (K := fun z => ((some (Value.int q.1), (ej_sh, q.2)) : Option Value × ej_H) = (some (Value.int z.1), (ej_sh, z.2))) hf rfl (fun _ h => h))
def f_X6_isEmpty (v1 : Int32) (m : ej_M) : Option (Int32 × ej_M) :=
  (f_X10_at 38 v1 m).bind fun q1 =>
  if q1.1 = (-2) then
    some (1, q1.2)
  else
    some (0, q1.2)
set_option maxHeartbeats 4000000 in
set_option maxRecDepth 100000 in
theorem b_X6_isEmpty (e : Nat) (hd : 0 ≤ e) (v1 : Int32) (m : ej_M) {x : (Int32 × ej_M)} {res : Option Value × ej_H} {K : (Int32 × ej_M) → Prop} (hf : f_X6_isEmpty v1 m = some x) (hK : K x) (h0 : ∀ q : (Int32 × ej_M), K q → res = (some (Value.int q.1), (ej_sh, q.2))) : ej_Z cX6_isEmpty 2 (some .boolean) RX6 "isEmpty" (e + 1) 0 [(0, .ref 37), (1, .int v1)] [] (ej_sh, m) res := by
  unfold f_X6_isEmpty at hf
  refine z_aload_n (pc := 0) (i := 0) (j := 0) dX6_isEmpty_0 rfl rfl ?_
  refine z_ogetR (pc := 1) dX6_isEmpty_1 lf_RX6_11 sh_37 rfl rfl rfl ?_
  refine z_iload_n (pc := 4) (i := 1) (j := 1) dX6_isEmpty_4 rfl rfl ?_
  obtain ⟨q1, hq1, hf⟩ := Option.bind_eq_some_iff.mp hf
  refine z_oSi (pc := 5) (as := [.ref 38, .int v1]) (rest := []) dX6_isEmpty_5 lm_RX6_26 mf_X10_at ms_X10_at rfl rfl (Nat.le_of_ble_eq_true rfl) (c_X10_at e (by omega) 38 v1 m hq1) ?_
  refine z_bipush (pc := 8) dX6_isEmpty_8 kb_n2 ?_
  refine z_icmp_ne (pc := 10) (tgt := 17) dX6_isEmpty_10 (by decide) (fun hc => ?_) (fun hc => ?_)
  · rw [if_neg hc] at hf
    refine z_iconst (pc := 17) dX6_isEmpty_17 ki_0 ?_
    obtain rfl := Option.some.inj hf
    rw [h0 _ hK]
    exact z_iret dX6_isEmpty_18 rfl rfl
  · rw [if_pos hc] at hf
    refine z_iconst (pc := 13) dX6_isEmpty_13 ki_1 ?_
    refine z_goto (pc := 14) (tgt := 18) dX6_isEmpty_14 (by decide) ?_
    obtain rfl := Option.some.inj hf
    rw [h0 _ hK]
    exact z_iret dX6_isEmpty_18 rfl rfl
set_option maxHeartbeats 4000000 in
set_option maxRecDepth 100000 in
theorem c_X6_isEmpty (d : Nat) (hd : 1 ≤ d) (v1 : Int32) (m : ej_M) {q : (Int32 × ej_M)} (hf : f_X6_isEmpty v1 m = some q) : ej_Ct yX6_isEmpty cX6_isEmpty 2 (some .boolean) d [.ref 37, .int v1] (ej_sh, m) ((some (Value.int q.1), (ej_sh, q.2)) : Option Value × ej_H) := by
  obtain ⟨e, rfl⟩ : ∃ e, d = e + 1 := ⟨d - 1, by omega⟩
  exact z_met (by decide +kernel) (Nat.le_of_ble_eq_true rfl) (b_X6_isEmpty e (by omega) v1 m (K := fun z => ((some (Value.int q.1), (ej_sh, q.2)) : Option Value × ej_H) = (some (Value.int z.1), (ej_sh, z.2))) hf rfl (fun _ h => h))
def f_X6_refusesRow (v1 : Int32) (m : ej_M) : Option (Int32 × ej_M) :=
  (f_X6_has v1 m).bind fun q1 =>
  if q1.1 = 0 then
    some ((-1), q1.2)
  else
    (f_X6_isEmpty v1 q1.2).bind fun q2 =>
    if q2.1 = 0 then
      (f_X6_holdsBody v1 q2.2).bind fun q3 =>
      if q3.1 = 0 then
        some (0, q3.2)
      else
        some ((-12), q3.2)
    else
      some ((-11), q2.2)
set_option maxHeartbeats 4000000 in
set_option maxRecDepth 100000 in
theorem b_X6_refusesRow (e : Nat) (hd : 1 ≤ e) (v1 : Int32) (m : ej_M) {x : (Int32 × ej_M)} {res : Option Value × ej_H} {K : (Int32 × ej_M) → Prop} (hf : f_X6_refusesRow v1 m = some x) (hK : K x) (h0 : ∀ q : (Int32 × ej_M), K q → res = (some (Value.int q.1), (ej_sh, q.2))) : ej_Z cX6_refusesRow 2 (some .int) RX6 "refusesRow" (e + 1) 0 [(0, .ref 37), (1, .int v1)] [] (ej_sh, m) res := by
  unfold f_X6_refusesRow at hf
  refine z_aload_n (pc := 0) (i := 0) (j := 0) dX6_refusesRow_0 rfl rfl ?_
  refine z_iload_n (pc := 1) (i := 1) (j := 1) dX6_refusesRow_1 rfl rfl ?_
  obtain ⟨q1, hq1, hf⟩ := Option.bind_eq_some_iff.mp hf
  refine z_oVi (pc := 2) (as := [.int v1]) (rest := []) dX6_refusesRow_2 lm_RX6_34 mf_X6_has mi_X6_has mv_X6_has rc_37 rfl rfl (Nat.le_of_ble_eq_true rfl) (c_X6_has e (by omega) v1 m hq1) ?_
  refine z_if_ne (pc := 5) (tgt := 10) dX6_refusesRow_5 (by decide) (fun hc => ?_) (fun hc => ?_)
  · rw [if_neg hc] at hf
    refine z_aload_n (pc := 10) (i := 0) (j := 0) dX6_refusesRow_10 rfl rfl ?_
    refine z_iload_n (pc := 11) (i := 1) (j := 1) dX6_refusesRow_11 rfl rfl ?_
    obtain ⟨q2, hq2, hf⟩ := Option.bind_eq_some_iff.mp hf
    refine z_oVi (pc := 12) (as := [.int v1]) (rest := []) dX6_refusesRow_12 lm_RX6_38 mf_X6_isEmpty mi_X6_isEmpty mv_X6_isEmpty rc_37 rfl rfl (Nat.le_of_ble_eq_true rfl) (c_X6_isEmpty e (by omega) v1 q1.2 hq2) ?_
    refine z_if_eq (pc := 15) (tgt := 21) dX6_refusesRow_15 (by decide) (fun hc => ?_) (fun hc => ?_)
    · rw [if_pos hc] at hf
      refine z_aload_n (pc := 21) (i := 0) (j := 0) dX6_refusesRow_21 rfl rfl ?_
      refine z_iload_n (pc := 22) (i := 1) (j := 1) dX6_refusesRow_22 rfl rfl ?_
      obtain ⟨q3, hq3, hf⟩ := Option.bind_eq_some_iff.mp hf
      refine z_oVi (pc := 23) (as := [.int v1]) (rest := []) dX6_refusesRow_23 lm_RX6_41 mf_X6_holdsBody mi_X6_holdsBody mv_X6_holdsBody rc_37 rfl rfl (Nat.le_of_ble_eq_true rfl) (c_X6_holdsBody e (by omega) v1 q2.2 hq3) ?_
      refine z_if_eq (pc := 26) (tgt := 34) dX6_refusesRow_26 (by decide) (fun hc => ?_) (fun hc => ?_)
      · rw [if_pos hc] at hf
        refine z_iconst (pc := 34) dX6_refusesRow_34 ki_0 ?_
        obtain rfl := Option.some.inj hf
        rw [h0 _ hK]
        exact z_iret dX6_refusesRow_35 rfl rfl
      · rw [if_neg hc] at hf
        refine z_bipush (pc := 29) dX6_refusesRow_29 kb_n12 ?_
        refine z_goto (pc := 31) (tgt := 35) dX6_refusesRow_31 (by decide) ?_
        obtain rfl := Option.some.inj hf
        rw [h0 _ hK]
        exact z_iret dX6_refusesRow_35 rfl rfl
    · rw [if_neg hc] at hf
      refine z_bipush (pc := 18) dX6_refusesRow_18 kb_n11 ?_
      obtain rfl := Option.some.inj hf
      rw [h0 _ hK]
      exact z_iret dX6_refusesRow_20 rfl rfl
  · rw [if_pos hc] at hf
    refine z_iconst (pc := 8) dX6_refusesRow_8 ki_n1 ?_
    obtain rfl := Option.some.inj hf
    rw [h0 _ hK]
    exact z_iret dX6_refusesRow_9 rfl rfl
set_option maxHeartbeats 4000000 in
set_option maxRecDepth 100000 in
theorem c_X6_refusesRow (d : Nat) (hd : 2 ≤ d) (v1 : Int32) (m : ej_M) {q : (Int32 × ej_M)} (hf : f_X6_refusesRow v1 m = some q) : ej_Ct yX6_refusesRow cX6_refusesRow 2 (some .int) d [.ref 37, .int v1] (ej_sh, m) ((some (Value.int q.1), (ej_sh, q.2)) : Option Value × ej_H) := by
  obtain ⟨e, rfl⟩ : ∃ e, d = e + 1 := ⟨d - 1, by omega⟩
  exact z_met (by decide +kernel) (Nat.le_of_ble_eq_true rfl) (b_X6_refusesRow e (by omega) v1 m (K := fun z => ((some (Value.int q.1), (ej_sh, q.2)) : Option Value × ej_H) = (some (Value.int z.1), (ej_sh, z.2))) hf rfl (fun _ h => h))
def f_X6_refusesBytes (v1 : Int32) (m : ej_M) : Option (Int32 × ej_M) :=
  (f_X6_refusesRow v1 m).bind fun q1 =>
  if q1.1 = 0 then
    (f_X10_at 38 v1 q1.2).bind fun q2 =>
    if q2.1 = 0 then
      some (0, q2.2)
    else
      some ((-12), q2.2)
  else
    some (q1.1, q1.2)
set_option maxHeartbeats 4000000 in
set_option maxRecDepth 100000 in
theorem b_X6_refusesBytes (e : Nat) (hd : 2 ≤ e) (v1 : Int32) (m : ej_M) {x : (Int32 × ej_M)} {res : Option Value × ej_H} {K : (Int32 × ej_M) → Prop} (hf : f_X6_refusesBytes v1 m = some x) (hK : K x) (h0 : ∀ q : (Int32 × ej_M), K q → res = (some (Value.int q.1), (ej_sh, q.2))) : ej_Z cX6_refusesBytes 3 (some .int) RX6 "refusesBytes" (e + 1) 0 [(0, .ref 37), (1, .int v1)] [] (ej_sh, m) res := by
  unfold f_X6_refusesBytes at hf
  refine z_aload_n (pc := 0) (i := 0) (j := 0) dX6_refusesBytes_0 rfl rfl ?_
  refine z_iload_n (pc := 1) (i := 1) (j := 1) dX6_refusesBytes_1 rfl rfl ?_
  obtain ⟨q1, hq1, hf⟩ := Option.bind_eq_some_iff.mp hf
  refine z_oVi (pc := 2) (as := [.int v1]) (rest := []) dX6_refusesBytes_2 lm_RX6_44 mf_X6_refusesRow mi_X6_refusesRow mv_X6_refusesRow rc_37 rfl rfl (Nat.le_of_ble_eq_true rfl) (c_X6_refusesRow e (by omega) v1 m hq1) ?_
  refine z_istore_n (pc := 5) (i := 2) (ls' := [(2, .int q1.1), (0, .ref 37), (1, .int v1)]) dX6_refusesBytes_5 rfl (Nat.le_of_ble_eq_true rfl) rfl ?_
  refine z_iload_n (pc := 6) (i := 2) (j := 0) dX6_refusesBytes_6 rfl rfl ?_
  refine z_if_eq (pc := 7) (tgt := 12) dX6_refusesBytes_7 (by decide) (fun hc => ?_) (fun hc => ?_)
  · rw [if_pos hc] at hf
    refine z_aload_n (pc := 12) (i := 0) (j := 1) dX6_refusesBytes_12 rfl rfl ?_
    refine z_ogetR (pc := 13) dX6_refusesBytes_13 lf_RX6_11 sh_37 rfl rfl rfl ?_
    refine z_iload_n (pc := 16) (i := 1) (j := 2) dX6_refusesBytes_16 rfl rfl ?_
    obtain ⟨q2, hq2, hf⟩ := Option.bind_eq_some_iff.mp hf
    refine z_oSi (pc := 17) (as := [.ref 38, .int v1]) (rest := []) dX6_refusesBytes_17 lm_RX6_26 mf_X10_at ms_X10_at rfl rfl (Nat.le_of_ble_eq_true rfl) (c_X10_at e (by omega) 38 v1 q1.2 hq2) ?_
    refine z_if_ne (pc := 20) (tgt := 27) dX6_refusesBytes_20 (by decide) (fun hc => ?_) (fun hc => ?_)
    · rw [if_neg hc] at hf
      refine z_bipush (pc := 27) dX6_refusesBytes_27 kb_n12 ?_
      obtain rfl := Option.some.inj hf
      rw [h0 _ hK]
      exact z_iret dX6_refusesBytes_29 rfl rfl
    · rw [if_pos hc] at hf
      refine z_iconst (pc := 23) dX6_refusesBytes_23 ki_0 ?_
      refine z_goto (pc := 24) (tgt := 29) dX6_refusesBytes_24 (by decide) ?_
      obtain rfl := Option.some.inj hf
      rw [h0 _ hK]
      exact z_iret dX6_refusesBytes_29 rfl rfl
  · rw [if_neg hc] at hf
    refine z_iload_n (pc := 10) (i := 2) (j := 0) dX6_refusesBytes_10 rfl rfl ?_
    obtain rfl := Option.some.inj hf
    rw [h0 _ hK]
    exact z_iret dX6_refusesBytes_11 rfl rfl
set_option maxHeartbeats 4000000 in
set_option maxRecDepth 100000 in
theorem c_X6_refusesBytes (d : Nat) (hd : 3 ≤ d) (v1 : Int32) (m : ej_M) {q : (Int32 × ej_M)} (hf : f_X6_refusesBytes v1 m = some q) : ej_Ct yX6_refusesBytes cX6_refusesBytes 3 (some .int) d [.ref 37, .int v1] (ej_sh, m) ((some (Value.int q.1), (ej_sh, q.2)) : Option Value × ej_H) := by
  obtain ⟨e, rfl⟩ : ∃ e, d = e + 1 := ⟨d - 1, by omega⟩
  exact z_met (by decide +kernel) (Nat.le_of_ble_eq_true rfl) (b_X6_refusesBytes e (by omega) v1 m (K := fun z => ((some (Value.int q.1), (ej_sh, q.2)) : Option Value × ej_H) = (some (Value.int z.1), (ej_sh, z.2))) hf rfl (fun _ h => h))
def f_X6_valueAt (v1 : Int32) (v2 : Int32) (m : ej_M) : Option (Int64 × ej_M) :=
  if ((v1 * 60) + v2) < 0 then
    some ((0 : Int64), m)
  else
    (oj_ln m 40).bind fun w1 =>
    if w1 ≤ ((v1 * 60) + v2) then
      some ((0 : Int64), m)
    else
      (oj_ll m 40 ((v1 * 60) + v2)).bind fun w2 =>
      some (w2, m)
set_option maxHeartbeats 4000000 in
set_option maxRecDepth 100000 in
theorem b_X6_valueAt (d : Nat) (v1 : Int32) (v2 : Int32) (m : ej_M) {x : (Int64 × ej_M)} {res : Option Value × ej_H} {K : (Int64 × ej_M) → Prop} (hf : f_X6_valueAt v1 v2 m = some x) (hK : K x) (h0 : ∀ q : (Int64 × ej_M), K q → res = (some (Value.long q.1), (ej_sh, q.2))) : ej_Z cX6_valueAt 4 (some .long) RX6 "valueAt" d 0 [(0, .ref 37), (1, .int v1), (2, .int v2)] [] (ej_sh, m) res := by
  unfold f_X6_valueAt at hf
  refine z_iload_n (pc := 0) (i := 1) (j := 1) dX6_valueAt_0 rfl rfl ?_
  refine z_bipush (pc := 1) dX6_valueAt_1 kb_60 ?_
  refine z_imul (pc := 3) dX6_valueAt_3 ?_
  refine z_iload_n (pc := 4) (i := 2) (j := 2) dX6_valueAt_4 rfl rfl ?_
  refine z_iadd (pc := 5) dX6_valueAt_5 ?_
  refine z_istore_n (pc := 6) (i := 3) (ls' := [(3, .int ((v1 * 60) + v2)), (0, .ref 37), (1, .int v1), (2, .int v2)]) dX6_valueAt_6 rfl (Nat.le_of_ble_eq_true rfl) rfl ?_
  refine z_iload_n (pc := 7) (i := 3) (j := 0) dX6_valueAt_7 rfl rfl ?_
  refine z_if_lt (pc := 8) (tgt := 29) dX6_valueAt_8 (by decide) (fun hc => ?_) (fun hc => ?_)
  · rw [if_pos hc] at hf
    refine z_lconst (pc := 29) dX6_valueAt_29 kl_0 ?_
    obtain rfl := Option.some.inj hf
    rw [h0 _ hK]
    exact z_lret dX6_valueAt_30 rfl
  · rw [if_neg hc] at hf
    refine z_iload_n (pc := 11) (i := 3) (j := 0) dX6_valueAt_11 rfl rfl ?_
    refine z_aload_n (pc := 12) (i := 0) (j := 1) dX6_valueAt_12 rfl rfl ?_
    refine z_ogetR (pc := 13) dX6_valueAt_13 lf_RX6_18 sh_37 rfl rfl rfl ?_
    obtain ⟨w1, hw1, hf⟩ := Option.bind_eq_some_iff.mp hf
    refine z_oalen (pc := 16) dX6_valueAt_16 hw1 ?_
    refine z_icmp_ge (pc := 17) (tgt := 29) dX6_valueAt_17 (by decide) (fun hc => ?_) (fun hc => ?_)
    · rw [if_pos hc] at hf
      refine z_lconst (pc := 29) dX6_valueAt_29 kl_0 ?_
      obtain rfl := Option.some.inj hf
      rw [h0 _ hK]
      exact z_lret dX6_valueAt_30 rfl
    · rw [if_neg hc] at hf
      refine z_aload_n (pc := 20) (i := 0) (j := 1) dX6_valueAt_20 rfl rfl ?_
      refine z_ogetR (pc := 21) dX6_valueAt_21 lf_RX6_18 sh_37 rfl rfl rfl ?_
      refine z_iload_n (pc := 24) (i := 3) (j := 0) dX6_valueAt_24 rfl rfl ?_
      obtain ⟨w2, hw2, hf⟩ := Option.bind_eq_some_iff.mp hf
      refine z_olald (pc := 25) dX6_valueAt_25 hw2 ?_
      refine z_goto (pc := 26) (tgt := 30) dX6_valueAt_26 (by decide) ?_
      obtain rfl := Option.some.inj hf
      rw [h0 _ hK]
      exact z_lret dX6_valueAt_30 rfl
set_option maxHeartbeats 4000000 in
set_option maxRecDepth 100000 in
theorem c_X6_valueAt (d : Nat) (hd : 0 ≤ d) (v1 : Int32) (v2 : Int32) (m : ej_M) {q : (Int64 × ej_M)} (hf : f_X6_valueAt v1 v2 m = some q) : ej_Ct yX6_valueAt cX6_valueAt 4 (some .long) d [.ref 37, .int v1, .int v2] (ej_sh, m) ((some (Value.long q.1), (ej_sh, q.2)) : Option Value × ej_H) := by
  exact z_met (by decide +kernel) (Nat.le_of_ble_eq_true rfl) (b_X6_valueAt d v1 v2 m (K := fun z => ((some (Value.long q.1), (ej_sh, q.2)) : Option Value × ej_H) = (some (Value.long z.1), (ej_sh, z.2))) hf rfl (fun _ h => h))
def f_X10_stones_L49b (v1 : Int32) (v2 : Int32) (v3 : Int32) (v4 : Int32) (m : ej_M) : Option ((Int32 × ej_M) ⊕ (Int32 × ej_M)) :=
  if v3 ≤ v4 then
    some (Sum.inr (v4, m))
  else
    (f_X6_length v1 m).bind fun q1 =>
    if (q1.1 - v4) ≤ v2 then
      some (Sum.inr (v4, q1.2))
    else
      (f_X6_valueAt v1 (v2 + v4) q1.2).bind fun q2 =>
      (f_X4_bring (Int64.toInt32 q2.1) q2.2).bind fun q3 =>
      if 0 ≤ q3.1 then
        some (Sum.inl ((v4 + 1), q3.2))
      else
        some (Sum.inr (v4, q3.2))
set_option maxHeartbeats 4000000 in
set_option maxRecDepth 100000 in
theorem b_X10_stones_L49b (e : Nat) (hd : 3 ≤ e) (v1 : Int32) (v2 : Int32) (v3 : Int32) (v4 : Int32) (m : ej_M) {x : ((Int32 × ej_M) ⊕ (Int32 × ej_M))} {res : Option Value × ej_H} {K : ((Int32 × ej_M) ⊕ (Int32 × ej_M)) → Prop} (hf : f_X10_stones_L49b v1 v2 v3 v4 m = some x) (hK : K x) (h1 : ∀ q : (Int32 × ej_M), K (Sum.inl q) → ej_Z cX10_stones 5 (some .int) RX10 "stones" (e + 1) 49 [(0, .ref 0), (1, .int v1), (2, .int v2), (3, .int v3), (4, .int q.1)] [] (ej_sh, q.2) res) (h0 : ∀ q : (Int32 × ej_M), K (Sum.inr q) → res = (some (Value.int q.1), (ej_sh, q.2))) : ej_Z cX10_stones 5 (some .int) RX10 "stones" (e + 1) 49 [(0, .ref 0), (1, .int v1), (2, .int v2), (3, .int v3), (4, .int v4)] [] (ej_sh, m) res := by
  unfold f_X10_stones_L49b at hf
  refine z_iload (pc := 49) (i := 4) (j := 4) dX10_stones_49 rfl ?_
  refine z_iload_n (pc := 51) (i := 3) (j := 3) dX10_stones_51 rfl rfl ?_
  refine z_icmp_ge (pc := 52) (tgt := 102) dX10_stones_52 (by decide) (fun hc => ?_) (fun hc => ?_)
  · rw [if_pos hc] at hf
    refine z_iload (pc := 102) (i := 4) (j := 4) dX10_stones_102 rfl ?_
    obtain rfl := Option.some.inj hf
    rw [h0 _ hK]
    exact z_iret dX10_stones_104 rfl rfl
  · rw [if_neg hc] at hf
    refine z_iload_n (pc := 55) (i := 2) (j := 2) dX10_stones_55 rfl rfl ?_
    refine z_aload_n (pc := 56) (i := 0) (j := 0) dX10_stones_56 rfl rfl ?_
    refine z_ogetR (pc := 57) dX10_stones_57 lf_RX10_79 sh_0 rfl rfl rfl ?_
    refine z_iload_n (pc := 60) (i := 1) (j := 1) dX10_stones_60 rfl rfl ?_
    obtain ⟨q1, hq1, hf⟩ := Option.bind_eq_some_iff.mp hf
    refine z_oVi (pc := 61) (as := [.int v1]) (rest := [.int v2]) dX10_stones_61 lm_RX10_94 mf_X6_length mi_X6_length mv_X6_length rc_37 rfl rfl (Nat.le_of_ble_eq_true rfl) (c_X6_length e (by omega) v1 m hq1) ?_
    refine z_iload (pc := 64) (i := 4) (j := 4) dX10_stones_64 rfl ?_
    refine z_isub (pc := 66) dX10_stones_66 ?_
    refine z_icmp_ge (pc := 67) (tgt := 102) dX10_stones_67 (by decide) (fun hc => ?_) (fun hc => ?_)
    · rw [if_pos hc] at hf
      refine z_iload (pc := 102) (i := 4) (j := 4) dX10_stones_102 rfl ?_
      obtain rfl := Option.some.inj hf
      rw [h0 _ hK]
      exact z_iret dX10_stones_104 rfl rfl
    · rw [if_neg hc] at hf
      refine z_aload_n (pc := 70) (i := 0) (j := 0) dX10_stones_70 rfl rfl ?_
      refine z_ogetR (pc := 71) dX10_stones_71 lf_RX10_21 sh_0 rfl rfl rfl ?_
      refine z_aload_n (pc := 74) (i := 0) (j := 0) dX10_stones_74 rfl rfl ?_
      refine z_ogetR (pc := 75) dX10_stones_75 lf_RX10_79 sh_0 rfl rfl rfl ?_
      refine z_iload_n (pc := 78) (i := 1) (j := 1) dX10_stones_78 rfl rfl ?_
      refine z_iload_n (pc := 79) (i := 2) (j := 2) dX10_stones_79 rfl rfl ?_
      refine z_iload (pc := 80) (i := 4) (j := 4) dX10_stones_80 rfl ?_
      refine z_iadd (pc := 82) dX10_stones_82 ?_
      obtain ⟨q2, hq2, hf⟩ := Option.bind_eq_some_iff.mp hf
      refine z_oVl (pc := 83) (as := [.int v1, .int (v2 + v4)]) (rest := [.ref 6]) dX10_stones_83 lm_RX10_97 mf_X6_valueAt mi_X6_valueAt mv_X6_valueAt rc_37 rfl rfl (Nat.le_of_ble_eq_true rfl) (c_X6_valueAt e (by omega) v1 (v2 + v4) q1.2 hq2) ?_
      refine z_l2i (pc := 86) dX10_stones_86 ?_
      obtain ⟨q3, hq3, hf⟩ := Option.bind_eq_some_iff.mp hf
      refine z_oVi (pc := 87) (as := [.int (Int64.toInt32 q2.1)]) (rest := []) dX10_stones_87 lm_RX10_83 mf_X4_bring mi_X4_bring mv_X4_bring rc_6 rfl rfl (Nat.le_of_ble_eq_true rfl) (c_X4_bring e (by omega) (Int64.toInt32 q2.1) q2.2 hq3) ?_
      refine z_if_ge (pc := 90) (tgt := 96) dX10_stones_90 (by decide) (fun hc => ?_) (fun hc => ?_)
      · rw [if_pos hc] at hf
        refine z_iinc (pc := 96) (j := 4) (ls' := [(4, .int (v4 + 1)), (0, .ref 0), (1, .int v1), (2, .int v2), (3, .int v3)]) dX10_stones_96 rfl ki_1 (Nat.le_of_ble_eq_true rfl) rfl ?_
        refine z_goto (pc := 99) (tgt := 49) dX10_stones_99 (by decide) ?_
        obtain rfl := Option.some.inj hf
        exact z_pick (ls' := [(0, .ref 0), (1, .int v1), (2, .int v2), (3, .int v3), (4, .int (v4 + 1))]) [1, 2, 3, 4, 0] rfl (h1 ((v4 + 1), q3.2) hK)
      · rw [if_neg hc] at hf
        refine z_iload (pc := 93) (i := 4) (j := 4) dX10_stones_93 rfl ?_
        obtain rfl := Option.some.inj hf
        rw [h0 _ hK]
        exact z_iret dX10_stones_95 rfl rfl
def f_X10_stones_L49 (v1 : Int32) (v2 : Int32) (v3 : Int32) (v4 : Int32) (m : ej_M) : Option (Int32 × ej_M) := oj_loop (fun q : (Int32 × ej_M) => f_X10_stones_L49b v1 v2 v3 q.1 q.2) oj_FU (v4, m)
set_option maxHeartbeats 4000000 in
set_option maxRecDepth 100000 in
theorem b_X10_stones_L49 (e : Nat) (hd : 3 ≤ e) (v1 : Int32) (v2 : Int32) (v3 : Int32) (v4 : Int32) (m : ej_M) {x : (Int32 × ej_M)} {res : Option Value × ej_H} {K : (Int32 × ej_M) → Prop} (hf : f_X10_stones_L49 v1 v2 v3 v4 m = some x) (hK : K x) (h0 : ∀ q : (Int32 × ej_M), K q → res = (some (Value.int q.1), (ej_sh, q.2))) : ej_Z cX10_stones 5 (some .int) RX10 "stones" (e + 1) 49 [(0, .ref 0), (1, .int v1), (2, .int v2), (3, .int v3), (4, .int v4)] [] (ej_sh, m) res :=
  oj_loop_Z (body := fun q : (Int32 × ej_M) => f_X10_stones_L49b v1 v2 v3 q.1 q.2) (P := fun q : (Int32 × ej_M) => ej_Z cX10_stones 5 (some .int) RX10 "stones" (e + 1) 49 [(0, .ref 0), (1, .int v1), (2, .int v2), (3, .int v3), (4, .int q.1)] [] (ej_sh, q.2) res) (K := K) (fun s x hb hl hr => b_X10_stones_L49b e hd v1 v2 v3  s.1 s.2 (K := fun x => (∀ s' : (Int32 × ej_M), x = Sum.inl s' → ej_Z cX10_stones 5 (some .int) RX10 "stones" (e + 1) 49 [(0, .ref 0), (1, .int v1), (2, .int v2), (3, .int v3), (4, .int s'.1)] [] (ej_sh, s'.2) res) ∧ ∀ e, x = Sum.inr e → K e) hb ⟨hl, hr⟩ (fun q hq => hq.1 q rfl) (fun q hq => h0 q (hq.2 _ rfl))) oj_FU (v4, m) x hf hK
def f_X10_stones (v1 : Int32) (v2 : Int32) (v3 : Int32) (m : ej_M) : Option (Int32 × ej_M) :=
  (f_X6_has v1 m).bind fun q1 =>
  if q1.1 = 0 then
    some ((-1), q1.2)
  else
    if v3 < 1 then
      some ((-1), q1.2)
    else
      if v3 ≤ 8 then
        (f_X6_refusesBytes v1 q1.2).bind fun q2 =>
        if q2.1 = (-12) then
          some ((-12), q2.2)
        else
          if 0 ≤ v2 then
            f_X10_stones_L49 v1 v2 v3 0 q2.2
          else
            some (0, q2.2)
      else
        some ((-1), q1.2)
set_option maxHeartbeats 4000000 in
set_option maxRecDepth 100000 in
theorem b_X10_stones (e : Nat) (hd : 3 ≤ e) (v1 : Int32) (v2 : Int32) (v3 : Int32) (m : ej_M) {x : (Int32 × ej_M)} {res : Option Value × ej_H} {K : (Int32 × ej_M) → Prop} (hf : f_X10_stones v1 v2 v3 m = some x) (hK : K x) (h0 : ∀ q : (Int32 × ej_M), K q → res = (some (Value.int q.1), (ej_sh, q.2))) : ej_Z cX10_stones 5 (some .int) RX10 "stones" (e + 1) 0 [(0, .ref 0), (1, .int v1), (2, .int v2), (3, .int v3)] [] (ej_sh, m) res := by
  unfold f_X10_stones at hf
  refine z_aload_n (pc := 0) (i := 0) (j := 0) dX10_stones_0 rfl rfl ?_
  refine z_ogetR (pc := 1) dX10_stones_1 lf_RX10_79 sh_0 rfl rfl rfl ?_
  refine z_iload_n (pc := 4) (i := 1) (j := 1) dX10_stones_4 rfl rfl ?_
  obtain ⟨q1, hq1, hf⟩ := Option.bind_eq_some_iff.mp hf
  refine z_oVi (pc := 5) (as := [.int v1]) (rest := []) dX10_stones_5 lm_RX10_87 mf_X6_has mi_X6_has mv_X6_has rc_37 rfl rfl (Nat.le_of_ble_eq_true rfl) (c_X6_has e (by omega) v1 m hq1) ?_
  refine z_if_eq (pc := 8) (tgt := 22) dX10_stones_8 (by decide) (fun hc => ?_) (fun hc => ?_)
  · rw [if_pos hc] at hf
    refine z_iconst (pc := 22) dX10_stones_22 ki_n1 ?_
    obtain rfl := Option.some.inj hf
    rw [h0 _ hK]
    exact z_iret dX10_stones_23 rfl rfl
  · rw [if_neg hc] at hf
    refine z_iload_n (pc := 11) (i := 3) (j := 3) dX10_stones_11 rfl rfl ?_
    refine z_iconst (pc := 12) dX10_stones_12 ki_1 ?_
    refine z_icmp_lt (pc := 13) (tgt := 22) dX10_stones_13 (by decide) (fun hc => ?_) (fun hc => ?_)
    · rw [if_pos hc] at hf
      refine z_iconst (pc := 22) dX10_stones_22 ki_n1 ?_
      obtain rfl := Option.some.inj hf
      rw [h0 _ hK]
      exact z_iret dX10_stones_23 rfl rfl
    · rw [if_neg hc] at hf
      refine z_iload_n (pc := 16) (i := 3) (j := 3) dX10_stones_16 rfl rfl ?_
      refine z_bipush (pc := 17) dX10_stones_17 kb_8 ?_
      refine z_icmp_le (pc := 19) (tgt := 24) dX10_stones_19 (by decide) (fun hc => ?_) (fun hc => ?_)
      · rw [if_pos hc] at hf
        refine z_aload_n (pc := 24) (i := 0) (j := 0) dX10_stones_24 rfl rfl ?_
        refine z_ogetR (pc := 25) dX10_stones_25 lf_RX10_79 sh_0 rfl rfl rfl ?_
        refine z_iload_n (pc := 28) (i := 1) (j := 1) dX10_stones_28 rfl rfl ?_
        obtain ⟨q2, hq2, hf⟩ := Option.bind_eq_some_iff.mp hf
        refine z_oVi (pc := 29) (as := [.int v1]) (rest := []) dX10_stones_29 lm_RX10_91 mf_X6_refusesBytes mi_X6_refusesBytes mv_X6_refusesBytes rc_37 rfl rfl (Nat.le_of_ble_eq_true rfl) (c_X6_refusesBytes e (by omega) v1 q1.2 hq2) ?_
        refine z_bipush (pc := 32) dX10_stones_32 kb_n12 ?_
        refine z_icmp_ne (pc := 34) (tgt := 40) dX10_stones_34 (by decide) (fun hc => ?_) (fun hc => ?_)
        · rw [if_neg hc] at hf
          refine z_iload_n (pc := 40) (i := 2) (j := 2) dX10_stones_40 rfl rfl ?_
          refine z_if_ge (pc := 41) (tgt := 46) dX10_stones_41 (by decide) (fun hc => ?_) (fun hc => ?_)
          · rw [if_pos hc] at hf
            refine z_iconst (pc := 46) dX10_stones_46 ki_0 ?_
            refine z_istore (pc := 47) (i := 4) (ls' := [(4, .int 0), (0, .ref 0), (1, .int v1), (2, .int v2), (3, .int v3)]) dX10_stones_47 (Nat.le_of_ble_eq_true rfl) rfl ?_
            exact z_pick [1, 2, 3, 4, 0] rfl (b_X10_stones_L49 e hd v1 v2 v3 0 q2.2 (K := K) hf hK  h0)
          · rw [if_neg hc] at hf
            refine z_iconst (pc := 44) dX10_stones_44 ki_0 ?_
            obtain rfl := Option.some.inj hf
            rw [h0 _ hK]
            exact z_iret dX10_stones_45 rfl rfl
        · rw [if_pos hc] at hf
          refine z_bipush (pc := 37) dX10_stones_37 kb_n12 ?_
          obtain rfl := Option.some.inj hf
          rw [h0 _ hK]
          exact z_iret dX10_stones_39 rfl rfl
      · rw [if_neg hc] at hf
        refine z_iconst (pc := 22) dX10_stones_22 ki_n1 ?_
        obtain rfl := Option.some.inj hf
        rw [h0 _ hK]
        exact z_iret dX10_stones_23 rfl rfl
set_option maxHeartbeats 4000000 in
set_option maxRecDepth 100000 in
theorem c_X10_stones (d : Nat) (hd : 4 ≤ d) (v1 : Int32) (v2 : Int32) (v3 : Int32) (m : ej_M) {q : (Int32 × ej_M)} (hf : f_X10_stones v1 v2 v3 m = some q) : ej_Ct yX10_stones cX10_stones 5 (some .int) d [.ref 0, .int v1, .int v2, .int v3] (ej_sh, m) ((some (Value.int q.1), (ej_sh, q.2)) : Option Value × ej_H) := by
  obtain ⟨e, rfl⟩ : ∃ e, d = e + 1 := ⟨d - 1, by omega⟩
  exact z_met (by decide +kernel) (Nat.le_of_ble_eq_true rfl) (b_X10_stones e (by omega) v1 v2 v3 m (K := fun z => ((some (Value.int q.1), (ej_sh, q.2)) : Option Value × ej_H) = (some (Value.int z.1), (ej_sh, z.2))) hf rfl (fun _ h => h))
def f_X11_isShelf (v0 : Int32) (m : ej_M) : Option (Int32 × ej_M) :=
  (f_X11_in v0 0 5 m).bind fun q1 =>
  oj_rz q1.1 q1.2
set_option maxHeartbeats 4000000 in
set_option maxRecDepth 100000 in
theorem b_X11_isShelf (e : Nat) (hd : 0 ≤ e) (v0 : Int32) (m : ej_M) {x : (Int32 × ej_M)} {res : Option Value × ej_H} {K : (Int32 × ej_M) → Prop} (hf : f_X11_isShelf v0 m = some x) (hK : K x) (h0 : ∀ q : (Int32 × ej_M), K q → res = (some (Value.int q.1), (ej_sh, q.2))) : ej_Z cX11_isShelf 1 (some .boolean) RX11 "isShelf" (e + 1) 0 [(0, .int v0)] [] (ej_sh, m) res := by
  unfold f_X11_isShelf at hf
  refine z_iload_n (pc := 0) (i := 0) (j := 0) dX11_isShelf_0 rfl rfl ?_
  refine z_iconst (pc := 1) dX11_isShelf_1 ki_0 ?_
  refine z_iconst (pc := 2) dX11_isShelf_2 ki_5 ?_
  obtain ⟨q1, hq1, hf⟩ := Option.bind_eq_some_iff.mp hf
  refine z_oSi (pc := 3) (as := [.int v0, .int 0, .int 5]) (rest := []) dX11_isShelf_3 lm_RX11_104 mf_X11_in ms_X11_in rfl rfl (Nat.le_of_ble_eq_true rfl) (c_X11_in e (by omega) v0 0 5 m hq1) ?_
  rw [h0 _ hK]
  exact z_oretz dX11_isShelf_6 rfl hf
set_option maxHeartbeats 4000000 in
set_option maxRecDepth 100000 in
theorem c_X11_isShelf (d : Nat) (hd : 1 ≤ d) (v0 : Int32) (m : ej_M) {q : (Int32 × ej_M)} (hf : f_X11_isShelf v0 m = some q) : ej_Ct yX11_isShelf cX11_isShelf 1 (some .boolean) d [.int v0] (ej_sh, m) ((some (Value.int q.1), (ej_sh, q.2)) : Option Value × ej_H) := by
  obtain ⟨e, rfl⟩ : ∃ e, d = e + 1 := ⟨d - 1, by omega⟩
  exact z_met (by decide +kernel) (Nat.le_of_ble_eq_true rfl) (b_X11_isShelf e (by omega) v0 m (K := fun z => ((some (Value.int q.1), (ej_sh, q.2)) : Option Value × ej_H) = (some (Value.int z.1), (ej_sh, z.2))) hf rfl (fun _ h => h))
def f_X11_stones_L58b (v1 : Int32) (v2 : Int32) (v3 : Int32) (v4 : Int32) (m : ej_M) : Option ((Int32 × ej_M) ⊕ (Int32 × ej_M)) :=
  if v3 ≤ v4 then
    some (Sum.inr (v3, m))
  else
    if (lg_cmp ((Int32.toInt64 v2) + (Int32.toInt64 v4)) (0 : Int64)) < 0 then
      some (Sum.inr (v4, m))
    else
      (oj_ld 0 m 67 v1).bind fun w1 =>
      if 0 ≤ (lg_cmp ((Int32.toInt64 v2) + (Int32.toInt64 v4)) (Int32.toInt64 w1)) then
        some (Sum.inr (v4, m))
      else
        if (m.1 41 1) = 8 then
          some (Sum.inr (v4, m))
        else
          (oj_ll m 68 ((60 * v1) + (Int64.toInt32 ((Int32.toInt64 v2) + (Int32.toInt64 v4))))).bind fun w2 =>
          (f_X11_in (Int64.toInt32 w2) 1 99 m).bind fun q3 =>
          if q3.1 = 0 then
            some (Sum.inr (v4, q3.2))
          else
            (f_X11_addStone (Int64.toInt32 w2) q3.2).bind fun q4 =>
            some (Sum.inl ((v4 + 1), q4.2))
set_option maxHeartbeats 4000000 in
set_option maxRecDepth 100000 in
theorem b_X11_stones_L58b (e : Nat) (hd : 1 ≤ e) (v1 : Int32) (v2 : Int32) (v3 : Int32) (v4 : Int32) (m : ej_M) {x : ((Int32 × ej_M) ⊕ (Int32 × ej_M))} {res : Option Value × ej_H} {K : ((Int32 × ej_M) ⊕ (Int32 × ej_M)) → Prop} (hf : f_X11_stones_L58b v1 v2 v3 v4 m = some x) (hK : K x) (h1 : ∀ q : (Int32 × ej_M), K (Sum.inl q) → ej_Z cX11_stones 8 (some .int) RX11 "stones" (e + 1) 58 [(0, .ref 41), (1, .int v1), (2, .int v2), (3, .int v3), (4, .int q.1)] [] (ej_sh, q.2) res) (h0 : ∀ q : (Int32 × ej_M), K (Sum.inr q) → res = (some (Value.int q.1), (ej_sh, q.2))) : ej_Z cX11_stones 8 (some .int) RX11 "stones" (e + 1) 58 [(0, .ref 41), (1, .int v1), (2, .int v2), (3, .int v3), (4, .int v4)] [] (ej_sh, m) res := by
  unfold f_X11_stones_L58b at hf
  refine z_iload (pc := 58) (i := 4) (j := 4) dX11_stones_58 rfl ?_
  refine z_iload_n (pc := 60) (i := 3) (j := 3) dX11_stones_60 rfl rfl ?_
  refine z_icmp_ge (pc := 61) (tgt := 147) dX11_stones_61 (by decide) (fun hc => ?_) (fun hc => ?_)
  · rw [if_pos hc] at hf
    refine z_iload_n (pc := 147) (i := 3) (j := 3) dX11_stones_147 rfl rfl ?_
    obtain rfl := Option.some.inj hf
    rw [h0 _ hK]
    exact z_iret dX11_stones_148 rfl rfl
  · rw [if_neg hc] at hf
    refine z_iload_n (pc := 64) (i := 2) (j := 2) dX11_stones_64 rfl rfl ?_
    refine z_i2l (pc := 65) dX11_stones_65 ?_
    refine z_iload (pc := 66) (i := 4) (j := 4) dX11_stones_66 rfl ?_
    refine z_i2l (pc := 68) dX11_stones_68 ?_
    refine z_ladd (pc := 69) dX11_stones_69 ?_
    refine z_lstore (pc := 70) (i := 5) (ls' := [(5, .long ((Int32.toInt64 v2) + (Int32.toInt64 v4))), (0, .ref 41), (1, .int v1), (2, .int v2), (3, .int v3), (4, .int v4)]) dX11_stones_70 (Nat.le_of_ble_eq_true rfl) rfl ?_
    refine z_lload (pc := 72) (i := 5) (j := 0) dX11_stones_72 rfl ?_
    refine z_lconst (pc := 74) dX11_stones_74 kl_0 ?_
    refine z_lcmp (pc := 75) dX11_stones_75 ?_
    refine z_if_lt (pc := 76) (tgt := 101) dX11_stones_76 (by decide) (fun hc => ?_) (fun hc => ?_)
    · rw [if_pos hc] at hf
      refine z_iload (pc := 101) (i := 4) (j := 5) dX11_stones_101 rfl ?_
      obtain rfl := Option.some.inj hf
      rw [h0 _ hK]
      exact z_iret dX11_stones_103 rfl rfl
    · rw [if_neg hc] at hf
      refine z_lload (pc := 79) (i := 5) (j := 0) dX11_stones_79 rfl ?_
      refine z_aload_n (pc := 81) (i := 0) (j := 1) dX11_stones_81 rfl rfl ?_
      refine z_ogetR (pc := 82) dX11_stones_82 lf_RX11_87 sh_41 rfl rfl rfl ?_
      refine z_iload_n (pc := 85) (i := 1) (j := 2) dX11_stones_85 rfl rfl ?_
      obtain ⟨w1, hw1, hf⟩ := Option.bind_eq_some_iff.mp hf
      refine z_oiald (pc := 86) dX11_stones_86 hw1 ?_
      refine z_i2l (pc := 87) dX11_stones_87 ?_
      refine z_lcmp (pc := 88) dX11_stones_88 ?_
      refine z_if_ge (pc := 89) (tgt := 101) dX11_stones_89 (by decide) (fun hc => ?_) (fun hc => ?_)
      · rw [if_pos hc] at hf
        refine z_iload (pc := 101) (i := 4) (j := 5) dX11_stones_101 rfl ?_
        obtain rfl := Option.some.inj hf
        rw [h0 _ hK]
        exact z_iret dX11_stones_103 rfl rfl
      · rw [if_neg hc] at hf
        refine z_aload_n (pc := 92) (i := 0) (j := 1) dX11_stones_92 rfl rfl ?_
        refine z_ogetI (pc := 93) dX11_stones_93 lf_RX11_101 sh_41 rfl rfl ?_
        refine z_bipush (pc := 96) dX11_stones_96 kb_8 ?_
        refine z_icmp_ne (pc := 98) (tgt := 104) dX11_stones_98 (by decide) (fun hc => ?_) (fun hc => ?_)
        · rw [if_neg hc] at hf
          refine z_aload_n (pc := 104) (i := 0) (j := 1) dX11_stones_104 rfl rfl ?_
          refine z_ogetR (pc := 105) dX11_stones_105 lf_RX11_90 sh_41 rfl rfl rfl ?_
          refine z_bipush (pc := 108) dX11_stones_108 kb_60 ?_
          refine z_iload_n (pc := 110) (i := 1) (j := 2) dX11_stones_110 rfl rfl ?_
          refine z_imul (pc := 111) dX11_stones_111 ?_
          refine z_lload (pc := 112) (i := 5) (j := 0) dX11_stones_112 rfl ?_
          refine z_l2i (pc := 114) dX11_stones_114 ?_
          refine z_iadd (pc := 115) dX11_stones_115 ?_
          obtain ⟨w2, hw2, hf⟩ := Option.bind_eq_some_iff.mp hf
          refine z_olald (pc := 116) dX11_stones_116 hw2 ?_
          refine z_l2i (pc := 117) dX11_stones_117 ?_
          refine z_istore (pc := 118) (i := 7) (ls' := [(7, .int (Int64.toInt32 w2)), (5, .long ((Int32.toInt64 v2) + (Int32.toInt64 v4))), (0, .ref 41), (1, .int v1), (2, .int v2), (3, .int v3), (4, .int v4)]) dX11_stones_118 (Nat.le_of_ble_eq_true rfl) rfl ?_
          refine z_iload (pc := 120) (i := 7) (j := 0) dX11_stones_120 rfl ?_
          refine z_iconst (pc := 122) dX11_stones_122 ki_1 ?_
          refine z_bipush (pc := 123) dX11_stones_123 kb_99 ?_
          obtain ⟨q3, hq3, hf⟩ := Option.bind_eq_some_iff.mp hf
          refine z_oSi (pc := 125) (as := [.int (Int64.toInt32 w2), .int 1, .int 99]) (rest := []) dX11_stones_125 lm_RX11_104 mf_X11_in ms_X11_in rfl rfl (Nat.le_of_ble_eq_true rfl) (c_X11_in e (by omega) (Int64.toInt32 w2) 1 99 m hq3) ?_
          refine z_if_ne (pc := 128) (tgt := 134) dX11_stones_128 (by decide) (fun hc => ?_) (fun hc => ?_)
          · rw [if_neg hc] at hf
            refine z_aload_n (pc := 134) (i := 0) (j := 2) dX11_stones_134 rfl rfl ?_
            refine z_iload (pc := 135) (i := 7) (j := 0) dX11_stones_135 rfl ?_
            obtain ⟨q4, hq4, hf⟩ := Option.bind_eq_some_iff.mp hf
            refine z_oVi (pc := 137) (as := [.int (Int64.toInt32 w2)]) (rest := []) dX11_stones_137 lm_RX11_111 mf_X11_addStone mi_X11_addStone mv_X11_addStone rc_41 rfl rfl (Nat.le_of_ble_eq_true rfl) (c_X11_addStone e (by omega) (Int64.toInt32 w2) q3.2 hq4) ?_
            refine z_pop (pc := 140) dX11_stones_140 rfl ?_
            refine z_iinc (pc := 141) (j := 6) (ls' := [(4, .int (v4 + 1)), (7, .int (Int64.toInt32 w2)), (5, .long ((Int32.toInt64 v2) + (Int32.toInt64 v4))), (0, .ref 41), (1, .int v1), (2, .int v2), (3, .int v3)]) dX11_stones_141 rfl ki_1 (Nat.le_of_ble_eq_true rfl) rfl ?_
            refine z_goto (pc := 144) (tgt := 58) dX11_stones_144 (by decide) ?_
            obtain rfl := Option.some.inj hf
            exact z_pick (ls' := [(0, .ref 41), (1, .int v1), (2, .int v2), (3, .int v3), (4, .int (v4 + 1))]) [3, 4, 5, 6, 0] rfl (h1 ((v4 + 1), q4.2) hK)
          · rw [if_pos hc] at hf
            refine z_iload (pc := 131) (i := 4) (j := 6) dX11_stones_131 rfl ?_
            obtain rfl := Option.some.inj hf
            rw [h0 _ hK]
            exact z_iret dX11_stones_133 rfl rfl
        · rw [if_pos hc] at hf
          refine z_iload (pc := 101) (i := 4) (j := 5) dX11_stones_101 rfl ?_
          obtain rfl := Option.some.inj hf
          rw [h0 _ hK]
          exact z_iret dX11_stones_103 rfl rfl
def f_X11_stones_L58 (v1 : Int32) (v2 : Int32) (v3 : Int32) (v4 : Int32) (m : ej_M) : Option (Int32 × ej_M) := oj_loop (fun q : (Int32 × ej_M) => f_X11_stones_L58b v1 v2 v3 q.1 q.2) oj_FU (v4, m)
set_option maxHeartbeats 4000000 in
set_option maxRecDepth 100000 in
theorem b_X11_stones_L58 (e : Nat) (hd : 1 ≤ e) (v1 : Int32) (v2 : Int32) (v3 : Int32) (v4 : Int32) (m : ej_M) {x : (Int32 × ej_M)} {res : Option Value × ej_H} {K : (Int32 × ej_M) → Prop} (hf : f_X11_stones_L58 v1 v2 v3 v4 m = some x) (hK : K x) (h0 : ∀ q : (Int32 × ej_M), K q → res = (some (Value.int q.1), (ej_sh, q.2))) : ej_Z cX11_stones 8 (some .int) RX11 "stones" (e + 1) 58 [(0, .ref 41), (1, .int v1), (2, .int v2), (3, .int v3), (4, .int v4)] [] (ej_sh, m) res :=
  oj_loop_Z (body := fun q : (Int32 × ej_M) => f_X11_stones_L58b v1 v2 v3 q.1 q.2) (P := fun q : (Int32 × ej_M) => ej_Z cX11_stones 8 (some .int) RX11 "stones" (e + 1) 58 [(0, .ref 41), (1, .int v1), (2, .int v2), (3, .int v3), (4, .int q.1)] [] (ej_sh, q.2) res) (K := K) (fun s x hb hl hr => b_X11_stones_L58b e hd v1 v2 v3  s.1 s.2 (K := fun x => (∀ s' : (Int32 × ej_M), x = Sum.inl s' → ej_Z cX11_stones 8 (some .int) RX11 "stones" (e + 1) 58 [(0, .ref 41), (1, .int v1), (2, .int v2), (3, .int v3), (4, .int s'.1)] [] (ej_sh, s'.2) res) ∧ ∀ e, x = Sum.inr e → K e) hb ⟨hl, hr⟩ (fun q hq => hq.1 q rfl) (fun q hq => h0 q (hq.2 _ rfl))) oj_FU (v4, m) x hf hK
def f_X11_stones_B43 (v1 : Int32) (v2 : Int32) (v3 : Int32) (m : ej_M) : Option (Int32 × ej_M) :=
  (oj_ld 0 m 66 v1).bind fun w1 =>
  if w1 = (-1) then
    some (0, m)
  else
    f_X11_stones_L58 v1 v2 v3 0 m
set_option maxHeartbeats 4000000 in
set_option maxRecDepth 100000 in
theorem b_X11_stones_B43 (e : Nat) (hd : 1 ≤ e) (v1 : Int32) (v2 : Int32) (v3 : Int32) (m : ej_M) {x : (Int32 × ej_M)} {res : Option Value × ej_H} {K : (Int32 × ej_M) → Prop} (hf : f_X11_stones_B43 v1 v2 v3 m = some x) (hK : K x) (h0 : ∀ q : (Int32 × ej_M), K q → res = (some (Value.int q.1), (ej_sh, q.2))) : ej_Z cX11_stones 8 (some .int) RX11 "stones" (e + 1) 43 [(0, .ref 41), (1, .int v1), (2, .int v2), (3, .int v3)] [] (ej_sh, m) res := by
  unfold f_X11_stones_B43 at hf
  refine z_aload_n (pc := 43) (i := 0) (j := 0) dX11_stones_43 rfl rfl ?_
  refine z_ogetR (pc := 44) dX11_stones_44 lf_RX11_84 sh_41 rfl rfl rfl ?_
  refine z_iload_n (pc := 47) (i := 1) (j := 1) dX11_stones_47 rfl rfl ?_
  obtain ⟨w1, hw1, hf⟩ := Option.bind_eq_some_iff.mp hf
  refine z_oiald (pc := 48) dX11_stones_48 hw1 ?_
  refine z_iconst (pc := 49) dX11_stones_49 ki_n1 ?_
  refine z_icmp_ne (pc := 50) (tgt := 55) dX11_stones_50 (by decide) (fun hc => ?_) (fun hc => ?_)
  · rw [if_neg hc] at hf
    refine z_iconst (pc := 55) dX11_stones_55 ki_0 ?_
    refine z_istore (pc := 56) (i := 4) (ls' := [(4, .int 0), (0, .ref 41), (1, .int v1), (2, .int v2), (3, .int v3)]) dX11_stones_56 (Nat.le_of_ble_eq_true rfl) rfl ?_
    exact z_pick [1, 2, 3, 4, 0] rfl (b_X11_stones_L58 e hd v1 v2 v3 0 m (K := K) hf hK  h0)
  · rw [if_pos hc] at hf
    refine z_iconst (pc := 53) dX11_stones_53 ki_0 ?_
    obtain rfl := Option.some.inj hf
    rw [h0 _ hK]
    exact z_iret dX11_stones_54 rfl rfl
def f_X11_stones (v1 : Int32) (v2 : Int32) (v3 : Int32) (m : ej_M) : Option (Int32 × ej_M) :=
  (f_X11_isShelf v1 m).bind fun q1 =>
  if q1.1 = 0 then
    some ((-1), q1.2)
  else
    (f_X11_in v3 1 8 q1.2).bind fun q2 =>
    if q2.1 = 0 then
      some ((-1), q2.2)
    else
      (oj_ld 0 q2.2 66 v1).bind fun w3 =>
      if w3 = (-1) then
        f_X11_stones_B43 v1 v2 v3 q2.2
      else
        (oj_ld 0 q2.2 66 v1).bind fun w4 =>
        if w4 = (-2) then
          f_X11_stones_B43 v1 v2 v3 q2.2
        else
          some ((-12), q2.2)
set_option maxHeartbeats 4000000 in
set_option maxRecDepth 100000 in
theorem b_X11_stones (e : Nat) (hd : 1 ≤ e) (v1 : Int32) (v2 : Int32) (v3 : Int32) (m : ej_M) {x : (Int32 × ej_M)} {res : Option Value × ej_H} {K : (Int32 × ej_M) → Prop} (hf : f_X11_stones v1 v2 v3 m = some x) (hK : K x) (h0 : ∀ q : (Int32 × ej_M), K q → res = (some (Value.int q.1), (ej_sh, q.2))) : ej_Z cX11_stones 8 (some .int) RX11 "stones" (e + 1) 0 [(0, .ref 41), (1, .int v1), (2, .int v2), (3, .int v3)] [] (ej_sh, m) res := by
  unfold f_X11_stones at hf
  refine z_iload_n (pc := 0) (i := 1) (j := 1) dX11_stones_0 rfl rfl ?_
  obtain ⟨q1, hq1, hf⟩ := Option.bind_eq_some_iff.mp hf
  refine z_oSi (pc := 1) (as := [.int v1]) (rest := []) dX11_stones_1 lm_RX11_115 mf_X11_isShelf ms_X11_isShelf rfl rfl (Nat.le_of_ble_eq_true rfl) (c_X11_isShelf e (by omega) v1 m hq1) ?_
  refine z_if_eq (pc := 4) (tgt := 17) dX11_stones_4 (by decide) (fun hc => ?_) (fun hc => ?_)
  · rw [if_pos hc] at hf
    refine z_iconst (pc := 17) dX11_stones_17 ki_n1 ?_
    obtain rfl := Option.some.inj hf
    rw [h0 _ hK]
    exact z_iret dX11_stones_18 rfl rfl
  · rw [if_neg hc] at hf
    refine z_iload_n (pc := 7) (i := 3) (j := 3) dX11_stones_7 rfl rfl ?_
    refine z_iconst (pc := 8) dX11_stones_8 ki_1 ?_
    refine z_bipush (pc := 9) dX11_stones_9 kb_8 ?_
    obtain ⟨q2, hq2, hf⟩ := Option.bind_eq_some_iff.mp hf
    refine z_oSi (pc := 11) (as := [.int v3, .int 1, .int 8]) (rest := []) dX11_stones_11 lm_RX11_104 mf_X11_in ms_X11_in rfl rfl (Nat.le_of_ble_eq_true rfl) (c_X11_in e (by omega) v3 1 8 q1.2 hq2) ?_
    refine z_if_ne (pc := 14) (tgt := 19) dX11_stones_14 (by decide) (fun hc => ?_) (fun hc => ?_)
    · rw [if_neg hc] at hf
      refine z_aload_n (pc := 19) (i := 0) (j := 0) dX11_stones_19 rfl rfl ?_
      refine z_ogetR (pc := 20) dX11_stones_20 lf_RX11_84 sh_41 rfl rfl rfl ?_
      refine z_iload_n (pc := 23) (i := 1) (j := 1) dX11_stones_23 rfl rfl ?_
      obtain ⟨w3, hw3, hf⟩ := Option.bind_eq_some_iff.mp hf
      refine z_oiald (pc := 24) dX11_stones_24 hw3 ?_
      refine z_iconst (pc := 25) dX11_stones_25 ki_n1 ?_
      refine z_icmp_eq (pc := 26) (tgt := 43) dX11_stones_26 (by decide) (fun hc => ?_) (fun hc => ?_)
      · rw [if_pos hc] at hf
        exact z_pick [0, 1, 2, 3] rfl (b_X11_stones_B43 e hd v1 v2 v3 q2.2 (K := K) hf hK  h0)
      · rw [if_neg hc] at hf
        refine z_aload_n (pc := 29) (i := 0) (j := 0) dX11_stones_29 rfl rfl ?_
        refine z_ogetR (pc := 30) dX11_stones_30 lf_RX11_84 sh_41 rfl rfl rfl ?_
        refine z_iload_n (pc := 33) (i := 1) (j := 1) dX11_stones_33 rfl rfl ?_
        obtain ⟨w4, hw4, hf⟩ := Option.bind_eq_some_iff.mp hf
        refine z_oiald (pc := 34) dX11_stones_34 hw4 ?_
        refine z_bipush (pc := 35) dX11_stones_35 kb_n2 ?_
        refine z_icmp_eq (pc := 37) (tgt := 43) dX11_stones_37 (by decide) (fun hc => ?_) (fun hc => ?_)
        · rw [if_pos hc] at hf
          exact z_pick [0, 1, 2, 3] rfl (b_X11_stones_B43 e hd v1 v2 v3 q2.2 (K := K) hf hK  h0)
        · rw [if_neg hc] at hf
          refine z_bipush (pc := 40) dX11_stones_40 kb_n12 ?_
          obtain rfl := Option.some.inj hf
          rw [h0 _ hK]
          exact z_iret dX11_stones_42 rfl rfl
    · rw [if_pos hc] at hf
      refine z_iconst (pc := 17) dX11_stones_17 ki_n1 ?_
      obtain rfl := Option.some.inj hf
      rw [h0 _ hK]
      exact z_iret dX11_stones_18 rfl rfl
set_option maxHeartbeats 4000000 in
set_option maxRecDepth 100000 in
theorem c_X11_stones (d : Nat) (hd : 2 ≤ d) (v1 : Int32) (v2 : Int32) (v3 : Int32) (m : ej_M) {q : (Int32 × ej_M)} (hf : f_X11_stones v1 v2 v3 m = some q) : ej_Ct yX11_stones cX11_stones 8 (some .int) d [.ref 41, .int v1, .int v2, .int v3] (ej_sh, m) ((some (Value.int q.1), (ej_sh, q.2)) : Option Value × ej_H) := by
  obtain ⟨e, rfl⟩ : ∃ e, d = e + 1 := ⟨d - 1, by omega⟩
  exact z_met (by decide +kernel) (Nat.le_of_ble_eq_true rfl) (b_X11_stones e (by omega) v1 v2 v3 m (K := fun z => ((some (Value.int q.1), (ej_sh, q.2)) : Option Value × ej_H) = (some (Value.int z.1), (ej_sh, z.2))) hf rfl (fun _ h => h))
def f_X1_become (v1 : Int32) (v2 : Int32) (m : ej_M) : Option (Unit × ej_M) :=
  if v1 = (-1) then
    (oj_pf m 6 5 v2).bind fun m2 =>
    some ((), m2)
  else
    (f_X4_weigh v1 v2 m).bind fun q1 =>
    some ((), q1.2)
set_option maxHeartbeats 4000000 in
set_option maxRecDepth 100000 in
theorem b_X1_become (e : Nat) (hd : 1 ≤ e) (v1 : Int32) (v2 : Int32) (m : ej_M) {x : (Unit × ej_M)} {res : Option Value × ej_H} {K : (Unit × ej_M) → Prop} (hf : f_X1_become v1 v2 m = some x) (hK : K x) (h0 : ∀ q : (Unit × ej_M), K q → res = (none, (ej_sh, q.2))) : ej_Z cX1_become 3 none RX1 "become" (e + 1) 0 [(0, .ref 11), (1, .int v1), (2, .int v2)] [] (ej_sh, m) res := by
  unfold f_X1_become at hf
  refine z_iload_n (pc := 0) (i := 1) (j := 1) dX1_become_0 rfl rfl ?_
  refine z_iconst (pc := 1) dX1_become_1 ki_n1 ?_
  refine z_icmp_ne (pc := 2) (tgt := 16) dX1_become_2 (by decide) (fun hc => ?_) (fun hc => ?_)
  · rw [if_neg hc] at hf
    refine z_aload_n (pc := 16) (i := 0) (j := 0) dX1_become_16 rfl rfl ?_
    refine z_ogetR (pc := 17) dX1_become_17 lf_RX1_21 sh_11 rfl rfl rfl ?_
    refine z_iload_n (pc := 20) (i := 1) (j := 1) dX1_become_20 rfl rfl ?_
    refine z_iload_n (pc := 21) (i := 2) (j := 2) dX1_become_21 rfl rfl ?_
    obtain ⟨q1, hq1, hf⟩ := Option.bind_eq_some_iff.mp hf
    refine z_oVv (pc := 22) (as := [.int v1, .int v2]) (rest := []) dX1_become_22 lm_RX1_55 mf_X4_weigh mi_X4_weigh mv_X4_weigh rc_6 rfl rfl (Nat.le_of_ble_eq_true rfl) (c_X4_weigh e (by omega) v1 v2 m hq1) ?_
    obtain rfl := Option.some.inj hf
    rw [h0 _ hK]
    exact z_ret dX1_become_25 rfl
  · rw [if_pos hc] at hf
    refine z_aload_n (pc := 5) (i := 0) (j := 0) dX1_become_5 rfl rfl ?_
    refine z_ogetR (pc := 6) dX1_become_6 lf_RX1_21 sh_11 rfl rfl rfl ?_
    refine z_iload_n (pc := 9) (i := 2) (j := 2) dX1_become_9 rfl rfl ?_
    obtain ⟨m2, hm2, hf⟩ := Option.bind_eq_some_iff.mp hf
    refine z_oputI (pc := 10) dX1_become_10 lf_RX1_25 sh_6 rfl hm2 ?_
    refine z_goto (pc := 13) (tgt := 25) dX1_become_13 (by decide) ?_
    obtain rfl := Option.some.inj hf
    rw [h0 _ hK]
    exact z_ret dX1_become_25 rfl
set_option maxHeartbeats 4000000 in
set_option maxRecDepth 100000 in
theorem c_X1_become (d : Nat) (hd : 2 ≤ d) (v1 : Int32) (v2 : Int32) (m : ej_M) {q : (Unit × ej_M)} (hf : f_X1_become v1 v2 m = some q) : ej_Ct yX1_become cX1_become 3 none d [.ref 11, .int v1, .int v2] (ej_sh, m) ((none, (ej_sh, q.2)) : Option Value × ej_H) := by
  obtain ⟨e, rfl⟩ : ∃ e, d = e + 1 := ⟨d - 1, by omega⟩
  exact z_met (by decide +kernel) (Nat.le_of_ble_eq_true rfl) (b_X1_become e (by omega) v1 v2 m (K := fun z => ((none, (ej_sh, q.2)) : Option Value × ej_H) = (none, (ej_sh, z.2))) hf rfl (fun _ h => h))
def f_X10_remove_L2b (v0 : Nat) (v1 : Int32) (v3 : Int32) (m : ej_M) : Option ((Int32 × ej_M) ⊕ (Unit × ej_M)) :=
  if (v1 - 1) ≤ v3 then
    some (Sum.inr ((), m))
  else
    (f_X10_at v0 (v3 + 1) m).bind fun q1 =>
    (f_X10_lay v0 v3 q1.1 q1.2).bind fun q2 =>
    some (Sum.inl ((v3 + 1), q2.2))
set_option maxHeartbeats 4000000 in
set_option maxRecDepth 100000 in
theorem b_X10_remove_L2b (e : Nat) (hd : 0 ≤ e) (v0 : Nat) (v1 : Int32) (v3 : Int32) (m : ej_M) {x : ((Int32 × ej_M) ⊕ (Unit × ej_M))} {res : Option Value × ej_H} {K : ((Int32 × ej_M) ⊕ (Unit × ej_M)) → Prop} (hf : f_X10_remove_L2b v0 v1 v3 m = some x) (hK : K x) (h1 : ∀ q : (Int32 × ej_M), K (Sum.inl q) → ej_Z cX10_remove 4 none RX10 "remove" (e + 1) 2 [(0, .ref v0), (1, .int v1), (3, .int q.1)] [] (ej_sh, q.2) res) (h0 : ∀ q : (Unit × ej_M), K (Sum.inr q) → res = (none, (ej_sh, q.2))) : ej_Z cX10_remove 4 none RX10 "remove" (e + 1) 2 [(0, .ref v0), (1, .int v1), (3, .int v3)] [] (ej_sh, m) res := by
  unfold f_X10_remove_L2b at hf
  refine z_iload_n (pc := 2) (i := 3) (j := 2) dX10_remove_2 rfl rfl ?_
  refine z_iload_n (pc := 3) (i := 1) (j := 1) dX10_remove_3 rfl rfl ?_
  refine z_iconst (pc := 4) dX10_remove_4 ki_1 ?_
  refine z_isub (pc := 5) dX10_remove_5 ?_
  refine z_icmp_ge (pc := 6) (tgt := 27) dX10_remove_6 (by decide) (fun hc => ?_) (fun hc => ?_)
  · rw [if_pos hc] at hf
    obtain rfl := Option.some.inj hf
    rw [h0 _ hK]
    exact z_ret dX10_remove_27 rfl
  · rw [if_neg hc] at hf
    refine z_aload_n (pc := 9) (i := 0) (j := 0) dX10_remove_9 rfl rfl ?_
    refine z_iload_n (pc := 10) (i := 3) (j := 2) dX10_remove_10 rfl rfl ?_
    refine z_aload_n (pc := 11) (i := 0) (j := 0) dX10_remove_11 rfl rfl ?_
    refine z_iload_n (pc := 12) (i := 3) (j := 2) dX10_remove_12 rfl rfl ?_
    refine z_iconst (pc := 13) dX10_remove_13 ki_1 ?_
    refine z_iadd (pc := 14) dX10_remove_14 ?_
    obtain ⟨q1, hq1, hf⟩ := Option.bind_eq_some_iff.mp hf
    refine z_oSi (pc := 15) (as := [.ref v0, .int (v3 + 1)]) (rest := [.int v3, .ref v0]) dX10_remove_15 lm_RX10_125 mf_X10_at ms_X10_at rfl rfl (Nat.le_of_ble_eq_true rfl) (c_X10_at e (by omega) v0 (v3 + 1) m hq1) ?_
    obtain ⟨q2, hq2, hf⟩ := Option.bind_eq_some_iff.mp hf
    refine z_oSv (pc := 18) (as := [.ref v0, .int v3, .int q1.1]) (rest := []) dX10_remove_18 lm_RX10_316 mf_X10_lay ms_X10_lay rfl rfl (Nat.le_of_ble_eq_true rfl) (c_X10_lay e (by omega) v0 v3 q1.1 q1.2 hq2) ?_
    refine z_iinc (pc := 21) (j := 2) (ls' := [(3, .int (v3 + 1)), (0, .ref v0), (1, .int v1)]) dX10_remove_21 rfl ki_1 (Nat.le_of_ble_eq_true rfl) rfl ?_
    refine z_goto (pc := 24) (tgt := 2) dX10_remove_24 (by decide) ?_
    obtain rfl := Option.some.inj hf
    exact z_pick (ls' := [(0, .ref v0), (1, .int v1), (3, .int (v3 + 1))]) [1, 2, 0] rfl (h1 ((v3 + 1), q2.2) hK)
def f_X10_remove_L2 (v0 : Nat) (v1 : Int32) (v3 : Int32) (m : ej_M) : Option (Unit × ej_M) := oj_loop (fun q : (Int32 × ej_M) => f_X10_remove_L2b v0 v1 q.1 q.2) oj_FU (v3, m)
set_option maxHeartbeats 4000000 in
set_option maxRecDepth 100000 in
theorem b_X10_remove_L2 (e : Nat) (hd : 0 ≤ e) (v0 : Nat) (v1 : Int32) (v3 : Int32) (m : ej_M) {x : (Unit × ej_M)} {res : Option Value × ej_H} {K : (Unit × ej_M) → Prop} (hf : f_X10_remove_L2 v0 v1 v3 m = some x) (hK : K x) (h0 : ∀ q : (Unit × ej_M), K q → res = (none, (ej_sh, q.2))) : ej_Z cX10_remove 4 none RX10 "remove" (e + 1) 2 [(0, .ref v0), (1, .int v1), (3, .int v3)] [] (ej_sh, m) res :=
  oj_loop_Z (body := fun q : (Int32 × ej_M) => f_X10_remove_L2b v0 v1 q.1 q.2) (P := fun q : (Int32 × ej_M) => ej_Z cX10_remove 4 none RX10 "remove" (e + 1) 2 [(0, .ref v0), (1, .int v1), (3, .int q.1)] [] (ej_sh, q.2) res) (K := K) (fun s x hb hl hr => b_X10_remove_L2b e hd v0 v1  s.1 s.2 (K := fun x => (∀ s' : (Int32 × ej_M), x = Sum.inl s' → ej_Z cX10_remove 4 none RX10 "remove" (e + 1) 2 [(0, .ref v0), (1, .int v1), (3, .int s'.1)] [] (ej_sh, s'.2) res) ∧ ∀ e, x = Sum.inr e → K e) hb ⟨hl, hr⟩ (fun q hq => hq.1 q rfl) (fun q hq => h0 q (hq.2 _ rfl))) oj_FU (v3, m) x hf hK
def f_X10_remove (v0 : Nat) (v1 : Int32) (v2 : Int32) (m : ej_M) : Option (Unit × ej_M) :=
  f_X10_remove_L2 v0 v1 v2 m
set_option maxHeartbeats 4000000 in
set_option maxRecDepth 100000 in
theorem b_X10_remove (e : Nat) (hd : 0 ≤ e) (v0 : Nat) (v1 : Int32) (v2 : Int32) (m : ej_M) {x : (Unit × ej_M)} {res : Option Value × ej_H} {K : (Unit × ej_M) → Prop} (hf : f_X10_remove v0 v1 v2 m = some x) (hK : K x) (h0 : ∀ q : (Unit × ej_M), K q → res = (none, (ej_sh, q.2))) : ej_Z cX10_remove 4 none RX10 "remove" (e + 1) 0 [(0, .ref v0), (1, .int v1), (2, .int v2)] [] (ej_sh, m) res := by
  unfold f_X10_remove at hf
  refine z_iload_n (pc := 0) (i := 2) (j := 2) dX10_remove_0 rfl rfl ?_
  refine z_istore_n (pc := 1) (i := 3) (ls' := [(3, .int v2), (0, .ref v0), (1, .int v1), (2, .int v2)]) dX10_remove_1 rfl (Nat.le_of_ble_eq_true rfl) rfl ?_
  exact z_pick [1, 2, 0] rfl (b_X10_remove_L2 e hd v0 v1 v2 m (K := K) hf hK  h0)
set_option maxHeartbeats 4000000 in
set_option maxRecDepth 100000 in
theorem c_X10_remove (d : Nat) (hd : 1 ≤ d) (v0 : Nat) (v1 : Int32) (v2 : Int32) (m : ej_M) {q : (Unit × ej_M)} (hf : f_X10_remove v0 v1 v2 m = some q) : ej_Ct yX10_remove cX10_remove 4 none d [.ref v0, .int v1, .int v2] (ej_sh, m) ((none, (ej_sh, q.2)) : Option Value × ej_H) := by
  obtain ⟨e, rfl⟩ : ∃ e, d = e + 1 := ⟨d - 1, by omega⟩
  exact z_met (by decide +kernel) (Nat.le_of_ble_eq_true rfl) (b_X10_remove e (by omega) v0 v1 v2 m (K := fun z => ((none, (ej_sh, q.2)) : Option Value × ej_H) = (none, (ej_sh, z.2))) hf rfl (fun _ h => h))
def f_X1_forgetFirst  (m : ej_M) : Option (Unit × ej_M) :=
  (f_X10_remove 12 40 0 m).bind fun q1 =>
  (f_X10_remove 13 40 0 q1.2).bind fun q2 =>
  (f_X10_remove 14 40 0 q2.2).bind fun q3 =>
  (oj_pf q3.2 11 4 ((q3.2.1 11 4) - 1)).bind fun m4 =>
  some ((), m4)
set_option maxHeartbeats 4000000 in
set_option maxRecDepth 100000 in
theorem b_X1_forgetFirst (e : Nat) (hd : 1 ≤ e)  (m : ej_M) {x : (Unit × ej_M)} {res : Option Value × ej_H} {K : (Unit × ej_M) → Prop} (hf : f_X1_forgetFirst  m = some x) (hK : K x) (h0 : ∀ q : (Unit × ej_M), K q → res = (none, (ej_sh, q.2))) : ej_Z cX1_forgetFirst 1 none RX1 "forgetFirst" (e + 1) 0 [(0, .ref 11)] [] (ej_sh, m) res := by
  unfold f_X1_forgetFirst at hf
  refine z_aload_n (pc := 0) (i := 0) (j := 0) dX1_forgetFirst_0 rfl rfl ?_
  refine z_ogetR (pc := 1) dX1_forgetFirst_1 lf_RX1_11 sh_11 rfl rfl rfl ?_
  refine z_bipush (pc := 4) dX1_forgetFirst_4 kb_40 ?_
  refine z_iconst (pc := 6) dX1_forgetFirst_6 ki_0 ?_
  obtain ⟨q1, hq1, hf⟩ := Option.bind_eq_some_iff.mp hf
  refine z_oSv (pc := 7) (as := [.ref 12, .int 40, .int 0]) (rest := []) dX1_forgetFirst_7 lm_RX1_52 mf_X10_remove ms_X10_remove rfl rfl (Nat.le_of_ble_eq_true rfl) (c_X10_remove e (by omega) 12 40 0 m hq1) ?_
  refine z_aload_n (pc := 10) (i := 0) (j := 0) dX1_forgetFirst_10 rfl rfl ?_
  refine z_ogetR (pc := 11) dX1_forgetFirst_11 lf_RX1_15 sh_11 rfl rfl rfl ?_
  refine z_bipush (pc := 14) dX1_forgetFirst_14 kb_40 ?_
  refine z_iconst (pc := 16) dX1_forgetFirst_16 ki_0 ?_
  obtain ⟨q2, hq2, hf⟩ := Option.bind_eq_some_iff.mp hf
  refine z_oSv (pc := 17) (as := [.ref 13, .int 40, .int 0]) (rest := []) dX1_forgetFirst_17 lm_RX1_52 mf_X10_remove ms_X10_remove rfl rfl (Nat.le_of_ble_eq_true rfl) (c_X10_remove e (by omega) 13 40 0 q1.2 hq2) ?_
  refine z_aload_n (pc := 20) (i := 0) (j := 0) dX1_forgetFirst_20 rfl rfl ?_
  refine z_ogetR (pc := 21) dX1_forgetFirst_21 lf_RX1_18 sh_11 rfl rfl rfl ?_
  refine z_bipush (pc := 24) dX1_forgetFirst_24 kb_40 ?_
  refine z_iconst (pc := 26) dX1_forgetFirst_26 ki_0 ?_
  obtain ⟨q3, hq3, hf⟩ := Option.bind_eq_some_iff.mp hf
  refine z_oSv (pc := 27) (as := [.ref 14, .int 40, .int 0]) (rest := []) dX1_forgetFirst_27 lm_RX1_52 mf_X10_remove ms_X10_remove rfl rfl (Nat.le_of_ble_eq_true rfl) (c_X10_remove e (by omega) 14 40 0 q2.2 hq3) ?_
  refine z_aload_n (pc := 30) (i := 0) (j := 0) dX1_forgetFirst_30 rfl rfl ?_
  refine z_dup (pc := 31) dX1_forgetFirst_31 rfl ?_
  refine z_ogetI (pc := 32) dX1_forgetFirst_32 lf_RX1_35 sh_11 rfl rfl ?_
  refine z_iconst (pc := 35) dX1_forgetFirst_35 ki_1 ?_
  refine z_isub (pc := 36) dX1_forgetFirst_36 ?_
  obtain ⟨m4, hm4, hf⟩ := Option.bind_eq_some_iff.mp hf
  refine z_oputI (pc := 37) dX1_forgetFirst_37 lf_RX1_35 sh_11 rfl hm4 ?_
  obtain rfl := Option.some.inj hf
  rw [h0 _ hK]
  exact z_ret dX1_forgetFirst_40 rfl
set_option maxHeartbeats 4000000 in
set_option maxRecDepth 100000 in
theorem c_X1_forgetFirst (d : Nat) (hd : 2 ≤ d)  (m : ej_M) {q : (Unit × ej_M)} (hf : f_X1_forgetFirst  m = some q) : ej_Ct yX1_forgetFirst cX1_forgetFirst 1 none d [.ref 11] (ej_sh, m) ((none, (ej_sh, q.2)) : Option Value × ej_H) := by
  obtain ⟨e, rfl⟩ : ∃ e, d = e + 1 := ⟨d - 1, by omega⟩
  exact z_met (by decide +kernel) (Nat.le_of_ble_eq_true rfl) (b_X1_forgetFirst e (by omega)  m (K := fun z => ((none, (ej_sh, q.2)) : Option Value × ej_H) = (none, (ej_sh, z.2))) hf rfl (fun _ h => h))
def f_X4_weightOf (v1 : Int32) (m : ej_M) : Option (Int32 × ej_M) :=
  (f_X10_at 7 v1 m).bind fun q1 =>
  some (q1.1, q1.2)
set_option maxHeartbeats 4000000 in
set_option maxRecDepth 100000 in
theorem b_X4_weightOf (e : Nat) (hd : 0 ≤ e) (v1 : Int32) (m : ej_M) {x : (Int32 × ej_M)} {res : Option Value × ej_H} {K : (Int32 × ej_M) → Prop} (hf : f_X4_weightOf v1 m = some x) (hK : K x) (h0 : ∀ q : (Int32 × ej_M), K q → res = (some (Value.int q.1), (ej_sh, q.2))) : ej_Z cX4_weightOf 2 (some .int) RX4 "weightOf" (e + 1) 0 [(0, .ref 6), (1, .int v1)] [] (ej_sh, m) res := by
  unfold f_X4_weightOf at hf
  refine z_aload_n (pc := 0) (i := 0) (j := 0) dX4_weightOf_0 rfl rfl ?_
  refine z_ogetR (pc := 1) dX4_weightOf_1 lf_RX4_9 sh_6 rfl rfl rfl ?_
  refine z_iload_n (pc := 4) (i := 1) (j := 1) dX4_weightOf_4 rfl rfl ?_
  obtain ⟨q1, hq1, hf⟩ := Option.bind_eq_some_iff.mp hf
  refine z_oSi (pc := 5) (as := [.ref 7, .int v1]) (rest := []) dX4_weightOf_5 lm_RX4_46 mf_X10_at ms_X10_at rfl rfl (Nat.le_of_ble_eq_true rfl) (c_X10_at e (by omega) 7 v1 m hq1) ?_
  obtain rfl := Option.some.inj hf
  rw [h0 _ hK]
  exact z_iret dX4_weightOf_8 rfl rfl
set_option maxHeartbeats 4000000 in
set_option maxRecDepth 100000 in
theorem c_X4_weightOf (d : Nat) (hd : 1 ≤ d) (v1 : Int32) (m : ej_M) {q : (Int32 × ej_M)} (hf : f_X4_weightOf v1 m = some q) : ej_Ct yX4_weightOf cX4_weightOf 2 (some .int) d [.ref 6, .int v1] (ej_sh, m) ((some (Value.int q.1), (ej_sh, q.2)) : Option Value × ej_H) := by
  obtain ⟨e, rfl⟩ : ∃ e, d = e + 1 := ⟨d - 1, by omega⟩
  exact z_met (by decide +kernel) (Nat.le_of_ble_eq_true rfl) (b_X4_weightOf e (by omega) v1 m (K := fun z => ((some (Value.int q.1), (ej_sh, q.2)) : Option Value × ej_H) = (some (Value.int z.1), (ej_sh, z.2))) hf rfl (fun _ h => h))
def f_X1_change_B44 (v1 : Int32) (v2 : Int32) (v3 : Int32) (m : ej_M) : Option (Int32 × ej_M) :=
  (f_X10_lay 12 (m.1 11 4) v1 m).bind fun q1 =>
  (f_X10_lay 13 (q1.2.1 11 4) v3 q1.2).bind fun q2 =>
  (f_X10_lay 14 (q2.2.1 11 4) v2 q2.2).bind fun q3 =>
  (oj_pf q3.2 11 4 ((q3.2.1 11 4) + 1)).bind fun m4 =>
  (oj_pf m4 11 5 (m4.1 11 4)).bind fun m5 =>
  (f_X1_become v1 v2 m5).bind fun q6 =>
  some (v3, q6.2)
set_option maxHeartbeats 4000000 in
set_option maxRecDepth 100000 in
theorem b_X1_change_B44 (e : Nat) (hd : 2 ≤ e) (v1 : Int32) (v2 : Int32) (v3 : Int32) (m : ej_M) {x : (Int32 × ej_M)} {res : Option Value × ej_H} {K : (Int32 × ej_M) → Prop} (hf : f_X1_change_B44 v1 v2 v3 m = some x) (hK : K x) (h0 : ∀ q : (Int32 × ej_M), K q → res = (some (Value.int q.1), (ej_sh, q.2))) : ej_Z cX1_change 4 (some .int) RX1 "change" (e + 1) 44 [(0, .ref 11), (1, .int v1), (2, .int v2), (3, .int v3)] [] (ej_sh, m) res := by
  unfold f_X1_change_B44 at hf
  refine z_aload_n (pc := 44) (i := 0) (j := 0) dX1_change_44 rfl rfl ?_
  refine z_ogetR (pc := 45) dX1_change_45 lf_RX1_11 sh_11 rfl rfl rfl ?_
  refine z_aload_n (pc := 48) (i := 0) (j := 0) dX1_change_48 rfl rfl ?_
  refine z_ogetI (pc := 49) dX1_change_49 lf_RX1_35 sh_11 rfl rfl ?_
  refine z_iload_n (pc := 52) (i := 1) (j := 1) dX1_change_52 rfl rfl ?_
  obtain ⟨q1, hq1, hf⟩ := Option.bind_eq_some_iff.mp hf
  refine z_oSv (pc := 53) (as := [.ref 12, .int (m.1 11 4), .int v1]) (rest := []) dX1_change_53 lm_RX1_41 mf_X10_lay ms_X10_lay rfl rfl (Nat.le_of_ble_eq_true rfl) (c_X10_lay e (by omega) 12 (m.1 11 4) v1 m hq1) ?_
  refine z_aload_n (pc := 56) (i := 0) (j := 0) dX1_change_56 rfl rfl ?_
  refine z_ogetR (pc := 57) dX1_change_57 lf_RX1_15 sh_11 rfl rfl rfl ?_
  refine z_aload_n (pc := 60) (i := 0) (j := 0) dX1_change_60 rfl rfl ?_
  refine z_ogetI (pc := 61) dX1_change_61 lf_RX1_35 sh_11 rfl rfl ?_
  refine z_iload_n (pc := 64) (i := 3) (j := 3) dX1_change_64 rfl rfl ?_
  obtain ⟨q2, hq2, hf⟩ := Option.bind_eq_some_iff.mp hf
  refine z_oSv (pc := 65) (as := [.ref 13, .int (q1.2.1 11 4), .int v3]) (rest := []) dX1_change_65 lm_RX1_41 mf_X10_lay ms_X10_lay rfl rfl (Nat.le_of_ble_eq_true rfl) (c_X10_lay e (by omega) 13 (q1.2.1 11 4) v3 q1.2 hq2) ?_
  refine z_aload_n (pc := 68) (i := 0) (j := 0) dX1_change_68 rfl rfl ?_
  refine z_ogetR (pc := 69) dX1_change_69 lf_RX1_18 sh_11 rfl rfl rfl ?_
  refine z_aload_n (pc := 72) (i := 0) (j := 0) dX1_change_72 rfl rfl ?_
  refine z_ogetI (pc := 73) dX1_change_73 lf_RX1_35 sh_11 rfl rfl ?_
  refine z_iload_n (pc := 76) (i := 2) (j := 2) dX1_change_76 rfl rfl ?_
  obtain ⟨q3, hq3, hf⟩ := Option.bind_eq_some_iff.mp hf
  refine z_oSv (pc := 77) (as := [.ref 14, .int (q2.2.1 11 4), .int v2]) (rest := []) dX1_change_77 lm_RX1_41 mf_X10_lay ms_X10_lay rfl rfl (Nat.le_of_ble_eq_true rfl) (c_X10_lay e (by omega) 14 (q2.2.1 11 4) v2 q2.2 hq3) ?_
  refine z_aload_n (pc := 80) (i := 0) (j := 0) dX1_change_80 rfl rfl ?_
  refine z_dup (pc := 81) dX1_change_81 rfl ?_
  refine z_ogetI (pc := 82) dX1_change_82 lf_RX1_35 sh_11 rfl rfl ?_
  refine z_iconst (pc := 85) dX1_change_85 ki_1 ?_
  refine z_iadd (pc := 86) dX1_change_86 ?_
  obtain ⟨m4, hm4, hf⟩ := Option.bind_eq_some_iff.mp hf
  refine z_oputI (pc := 87) dX1_change_87 lf_RX1_35 sh_11 rfl hm4 ?_
  refine z_aload_n (pc := 90) (i := 0) (j := 0) dX1_change_90 rfl rfl ?_
  refine z_aload_n (pc := 91) (i := 0) (j := 0) dX1_change_91 rfl rfl ?_
  refine z_ogetI (pc := 92) dX1_change_92 lf_RX1_35 sh_11 rfl rfl ?_
  obtain ⟨m5, hm5, hf⟩ := Option.bind_eq_some_iff.mp hf
  refine z_oputI (pc := 95) dX1_change_95 lf_RX1_45 sh_11 rfl hm5 ?_
  refine z_aload_n (pc := 98) (i := 0) (j := 0) dX1_change_98 rfl rfl ?_
  refine z_iload_n (pc := 99) (i := 1) (j := 1) dX1_change_99 rfl rfl ?_
  refine z_iload_n (pc := 100) (i := 2) (j := 2) dX1_change_100 rfl rfl ?_
  obtain ⟨q6, hq6, hf⟩ := Option.bind_eq_some_iff.mp hf
  refine z_oVv (pc := 101) (as := [.int v1, .int v2]) (rest := []) dX1_change_101 lm_RX1_48 mf_X1_become mi_X1_become mv_X1_become rc_11 rfl rfl (Nat.le_of_ble_eq_true rfl) (c_X1_become e (by omega) v1 v2 m5 hq6) ?_
  refine z_iload_n (pc := 104) (i := 3) (j := 3) dX1_change_104 rfl rfl ?_
  obtain rfl := Option.some.inj hf
  rw [h0 _ hK]
  exact z_iret dX1_change_105 rfl rfl
def f_X1_change_B23 (v1 : Int32) (v2 : Int32) (s0 : Int32) (m : ej_M) : Option (Int32 × ej_M) :=
  if v2 = s0 then
    some (s0, m)
  else
    if (m.1 11 4) = 40 then
      (f_X1_forgetFirst m).bind fun q1 =>
      f_X1_change_B44 v1 v2 s0 q1.2
    else
      f_X1_change_B44 v1 v2 s0 m
set_option maxHeartbeats 4000000 in
set_option maxRecDepth 100000 in
theorem b_X1_change_B23 (e : Nat) (hd : 2 ≤ e) (v1 : Int32) (v2 : Int32) (s0 : Int32) (m : ej_M) {x : (Int32 × ej_M)} {res : Option Value × ej_H} {K : (Int32 × ej_M) → Prop} (hf : f_X1_change_B23 v1 v2 s0 m = some x) (hK : K x) (h0 : ∀ q : (Int32 × ej_M), K q → res = (some (Value.int q.1), (ej_sh, q.2))) : ej_Z cX1_change 4 (some .int) RX1 "change" (e + 1) 23 [(0, .ref 11), (1, .int v1), (2, .int v2)] [.int s0] (ej_sh, m) res := by
  unfold f_X1_change_B23 at hf
  refine z_istore_n (pc := 23) (i := 3) (ls' := [(3, .int s0), (0, .ref 11), (1, .int v1), (2, .int v2)]) dX1_change_23 rfl (Nat.le_of_ble_eq_true rfl) rfl ?_
  refine z_iload_n (pc := 24) (i := 2) (j := 3) dX1_change_24 rfl rfl ?_
  refine z_iload_n (pc := 25) (i := 3) (j := 0) dX1_change_25 rfl rfl ?_
  refine z_icmp_ne (pc := 26) (tgt := 31) dX1_change_26 (by decide) (fun hc => ?_) (fun hc => ?_)
  · rw [if_neg hc] at hf
    refine z_aload_n (pc := 31) (i := 0) (j := 1) dX1_change_31 rfl rfl ?_
    refine z_ogetI (pc := 32) dX1_change_32 lf_RX1_35 sh_11 rfl rfl ?_
    refine z_bipush (pc := 35) dX1_change_35 kb_40 ?_
    refine z_icmp_ne (pc := 37) (tgt := 44) dX1_change_37 (by decide) (fun hc => ?_) (fun hc => ?_)
    · rw [if_neg hc] at hf
      exact z_pick [1, 2, 3, 0] rfl (b_X1_change_B44 e hd v1 v2 s0 m (K := K) hf hK  h0)
    · rw [if_pos hc] at hf
      refine z_aload_n (pc := 40) (i := 0) (j := 1) dX1_change_40 rfl rfl ?_
      obtain ⟨q1, hq1, hf⟩ := Option.bind_eq_some_iff.mp hf
      refine z_oVv (pc := 41) (as := []) (rest := []) dX1_change_41 lm_RX1_38 mf_X1_forgetFirst mi_X1_forgetFirst mv_X1_forgetFirst rc_11 rfl rfl (Nat.le_of_ble_eq_true rfl) (c_X1_forgetFirst e (by omega) m hq1) ?_
      exact z_pick [1, 2, 3, 0] rfl (b_X1_change_B44 e hd v1 v2 s0 q1.2 (K := K) hf hK  h0)
  · rw [if_pos hc] at hf
    refine z_iload_n (pc := 29) (i := 3) (j := 0) dX1_change_29 rfl rfl ?_
    obtain rfl := Option.some.inj hf
    rw [h0 _ hK]
    exact z_iret dX1_change_30 rfl rfl
def f_X1_change (v1 : Int32) (v2 : Int32) (m : ej_M) : Option (Int32 × ej_M) :=
  if v1 = (-1) then
    f_X1_change_B23 v1 v2 (m.1 6 5) m
  else
    (f_X4_weightOf v1 m).bind fun q1 =>
    f_X1_change_B23 v1 v2 q1.1 q1.2
set_option maxHeartbeats 4000000 in
set_option maxRecDepth 100000 in
theorem b_X1_change (e : Nat) (hd : 2 ≤ e) (v1 : Int32) (v2 : Int32) (m : ej_M) {x : (Int32 × ej_M)} {res : Option Value × ej_H} {K : (Int32 × ej_M) → Prop} (hf : f_X1_change v1 v2 m = some x) (hK : K x) (h0 : ∀ q : (Int32 × ej_M), K q → res = (some (Value.int q.1), (ej_sh, q.2))) : ej_Z cX1_change 4 (some .int) RX1 "change" (e + 1) 0 [(0, .ref 11), (1, .int v1), (2, .int v2)] [] (ej_sh, m) res := by
  unfold f_X1_change at hf
  refine z_iload_n (pc := 0) (i := 1) (j := 1) dX1_change_0 rfl rfl ?_
  refine z_iconst (pc := 1) dX1_change_1 ki_n1 ?_
  refine z_icmp_ne (pc := 2) (tgt := 15) dX1_change_2 (by decide) (fun hc => ?_) (fun hc => ?_)
  · rw [if_neg hc] at hf
    refine z_aload_n (pc := 15) (i := 0) (j := 0) dX1_change_15 rfl rfl ?_
    refine z_ogetR (pc := 16) dX1_change_16 lf_RX1_21 sh_11 rfl rfl rfl ?_
    refine z_iload_n (pc := 19) (i := 1) (j := 1) dX1_change_19 rfl rfl ?_
    obtain ⟨q1, hq1, hf⟩ := Option.bind_eq_some_iff.mp hf
    refine z_oVi (pc := 20) (as := [.int v1]) (rest := []) dX1_change_20 lm_RX1_31 mf_X4_weightOf mi_X4_weightOf mv_X4_weightOf rc_6 rfl rfl (Nat.le_of_ble_eq_true rfl) (c_X4_weightOf e (by omega) v1 m hq1) ?_
    exact z_pick [0, 1, 2] rfl (b_X1_change_B23 e hd v1 v2 q1.1 q1.2 (K := K) hf hK  h0)
  · rw [if_pos hc] at hf
    refine z_aload_n (pc := 5) (i := 0) (j := 0) dX1_change_5 rfl rfl ?_
    refine z_ogetR (pc := 6) dX1_change_6 lf_RX1_21 sh_11 rfl rfl rfl ?_
    refine z_ogetI (pc := 9) dX1_change_9 lf_RX1_25 sh_6 rfl rfl ?_
    refine z_goto (pc := 12) (tgt := 23) dX1_change_12 (by decide) ?_
    exact z_pick [0, 1, 2] rfl (b_X1_change_B23 e hd v1 v2 (m.1 6 5) m (K := K) hf hK  h0)
set_option maxHeartbeats 4000000 in
set_option maxRecDepth 100000 in
theorem c_X1_change (d : Nat) (hd : 3 ≤ d) (v1 : Int32) (v2 : Int32) (m : ej_M) {q : (Int32 × ej_M)} (hf : f_X1_change v1 v2 m = some q) : ej_Ct yX1_change cX1_change 4 (some .int) d [.ref 11, .int v1, .int v2] (ej_sh, m) ((some (Value.int q.1), (ej_sh, q.2)) : Option Value × ej_H) := by
  obtain ⟨e, rfl⟩ : ∃ e, d = e + 1 := ⟨d - 1, by omega⟩
  exact z_met (by decide +kernel) (Nat.le_of_ble_eq_true rfl) (b_X1_change e (by omega) v1 v2 m (K := fun z => ((some (Value.int q.1), (ej_sh, q.2)) : Option Value × ej_H) = (some (Value.int z.1), (ej_sh, z.2))) hf rfl (fun _ h => h))
def f_X4_has (v1 : Int32) (m : ej_M) : Option (Int32 × ej_M) :=
  if v1 < 0 then
    some (0, m)
  else
    if (m.1 6 2) ≤ v1 then
      some (0, m)
    else
      some (1, m)
set_option maxHeartbeats 4000000 in
set_option maxRecDepth 100000 in
theorem b_X4_has (d : Nat) (v1 : Int32) (m : ej_M) {x : (Int32 × ej_M)} {res : Option Value × ej_H} {K : (Int32 × ej_M) → Prop} (hf : f_X4_has v1 m = some x) (hK : K x) (h0 : ∀ q : (Int32 × ej_M), K q → res = (some (Value.int q.1), (ej_sh, q.2))) : ej_Z cX4_has 2 (some .boolean) RX4 "has" d 0 [(0, .ref 6), (1, .int v1)] [] (ej_sh, m) res := by
  unfold f_X4_has at hf
  refine z_iload_n (pc := 0) (i := 1) (j := 1) dX4_has_0 rfl rfl ?_
  refine z_if_lt (pc := 1) (tgt := 16) dX4_has_1 (by decide) (fun hc => ?_) (fun hc => ?_)
  · rw [if_pos hc] at hf
    refine z_iconst (pc := 16) dX4_has_16 ki_0 ?_
    obtain rfl := Option.some.inj hf
    rw [h0 _ hK]
    exact z_iret dX4_has_17 rfl rfl
  · rw [if_neg hc] at hf
    refine z_iload_n (pc := 4) (i := 1) (j := 1) dX4_has_4 rfl rfl ?_
    refine z_aload_n (pc := 5) (i := 0) (j := 0) dX4_has_5 rfl rfl ?_
    refine z_ogetI (pc := 6) dX4_has_6 lf_RX4_36 sh_6 rfl rfl ?_
    refine z_icmp_ge (pc := 9) (tgt := 16) dX4_has_9 (by decide) (fun hc => ?_) (fun hc => ?_)
    · rw [if_pos hc] at hf
      refine z_iconst (pc := 16) dX4_has_16 ki_0 ?_
      obtain rfl := Option.some.inj hf
      rw [h0 _ hK]
      exact z_iret dX4_has_17 rfl rfl
    · rw [if_neg hc] at hf
      refine z_iconst (pc := 12) dX4_has_12 ki_1 ?_
      refine z_goto (pc := 13) (tgt := 17) dX4_has_13 (by decide) ?_
      obtain rfl := Option.some.inj hf
      rw [h0 _ hK]
      exact z_iret dX4_has_17 rfl rfl
set_option maxHeartbeats 4000000 in
set_option maxRecDepth 100000 in
theorem c_X4_has (d : Nat) (hd : 0 ≤ d) (v1 : Int32) (m : ej_M) {q : (Int32 × ej_M)} (hf : f_X4_has v1 m = some q) : ej_Ct yX4_has cX4_has 2 (some .boolean) d [.ref 6, .int v1] (ej_sh, m) ((some (Value.int q.1), (ej_sh, q.2)) : Option Value × ej_H) := by
  exact z_met (by decide +kernel) (Nat.le_of_ble_eq_true rfl) (b_X4_has d v1 m (K := fun z => ((some (Value.int q.1), (ej_sh, q.2)) : Option Value × ej_H) = (some (Value.int z.1), (ej_sh, z.2))) hf rfl (fun _ h => h))
def f_X10_mend (v1 : Int32) (v2 : Int32) (v3 : Int32) (m : ej_M) : Option (Int32 × ej_M) :=
  if v2 = 0 then
    (f_X4_has v1 m).bind fun q2 =>
    if q2.1 = 0 then
      some ((-1), q2.2)
    else
      (f_X10_isWeight v3 q2.2).bind fun q3 =>
      if q3.1 = 0 then
        some ((-1), q3.2)
      else
        (f_X1_change v1 v3 q3.2).bind fun q4 =>
        some (q4.1, q4.2)
  else
    if v2 = 1 then
      if v1 = 0 then
        if v3 < 0 then
          some ((-1), m)
        else
          if v3 ≤ 1 then
            (f_X1_change (-1) v3 m).bind fun q1 =>
            some (q1.1, q1.2)
          else
            some ((-1), m)
      else
        some ((-1), m)
    else
      some ((-1), m)
set_option maxHeartbeats 4000000 in
set_option maxRecDepth 100000 in
theorem b_X10_mend (e : Nat) (hd : 3 ≤ e) (v1 : Int32) (v2 : Int32) (v3 : Int32) (m : ej_M) {x : (Int32 × ej_M)} {res : Option Value × ej_H} {K : (Int32 × ej_M) → Prop} (hf : f_X10_mend v1 v2 v3 m = some x) (hK : K x) (h0 : ∀ q : (Int32 × ej_M), K q → res = (some (Value.int q.1), (ej_sh, q.2))) : ej_Z cX10_mend 4 (some .int) RX10 "mend" (e + 1) 0 [(0, .ref 0), (1, .int v1), (2, .int v2), (3, .int v3)] [] (ej_sh, m) res := by
  unfold f_X10_mend at hf
  refine z_iload_n (pc := 0) (i := 2) (j := 2) dX10_mend_0 rfl rfl ?_
  refine z_if_ne (pc := 1) (tgt := 34) dX10_mend_1 (by decide) (fun hc => ?_) (fun hc => ?_)
  · rw [if_neg hc] at hf
    refine z_iload_n (pc := 34) (i := 2) (j := 2) dX10_mend_34 rfl rfl ?_
    refine z_iconst (pc := 35) dX10_mend_35 ki_1 ?_
    refine z_icmp_ne (pc := 36) (tgt := 52) dX10_mend_36 (by decide) (fun hc => ?_) (fun hc => ?_)
    · rw [if_neg hc] at hf
      refine z_iconst (pc := 52) dX10_mend_52 ki_n1 ?_
      obtain rfl := Option.some.inj hf
      rw [h0 _ hK]
      exact z_iret dX10_mend_53 rfl rfl
    · rw [if_pos hc] at hf
      refine z_iload_n (pc := 39) (i := 1) (j := 1) dX10_mend_39 rfl rfl ?_
      refine z_if_ne (pc := 40) (tgt := 52) dX10_mend_40 (by decide) (fun hc => ?_) (fun hc => ?_)
      · rw [if_neg hc] at hf
        refine z_iconst (pc := 52) dX10_mend_52 ki_n1 ?_
        obtain rfl := Option.some.inj hf
        rw [h0 _ hK]
        exact z_iret dX10_mend_53 rfl rfl
      · rw [if_pos hc] at hf
        refine z_iload_n (pc := 43) (i := 3) (j := 3) dX10_mend_43 rfl rfl ?_
        refine z_if_lt (pc := 44) (tgt := 52) dX10_mend_44 (by decide) (fun hc => ?_) (fun hc => ?_)
        · rw [if_pos hc] at hf
          refine z_iconst (pc := 52) dX10_mend_52 ki_n1 ?_
          obtain rfl := Option.some.inj hf
          rw [h0 _ hK]
          exact z_iret dX10_mend_53 rfl rfl
        · rw [if_neg hc] at hf
          refine z_iload_n (pc := 47) (i := 3) (j := 3) dX10_mend_47 rfl rfl ?_
          refine z_iconst (pc := 48) dX10_mend_48 ki_1 ?_
          refine z_icmp_le (pc := 49) (tgt := 54) dX10_mend_49 (by decide) (fun hc => ?_) (fun hc => ?_)
          · rw [if_pos hc] at hf
            refine z_aload_n (pc := 54) (i := 0) (j := 0) dX10_mend_54 rfl rfl ?_
            refine z_ogetR (pc := 55) dX10_mend_55 lf_RX10_30 sh_0 rfl rfl rfl ?_
            refine z_iconst (pc := 58) dX10_mend_58 ki_n1 ?_
            refine z_iload_n (pc := 59) (i := 3) (j := 3) dX10_mend_59 rfl rfl ?_
            obtain ⟨q1, hq1, hf⟩ := Option.bind_eq_some_iff.mp hf
            refine z_oVi (pc := 60) (as := [.int (-1), .int v3]) (rest := []) dX10_mend_60 lm_RX10_105 mf_X1_change mi_X1_change mv_X1_change rc_11 rfl rfl (Nat.le_of_ble_eq_true rfl) (c_X1_change e (by omega) (-1) v3 m hq1) ?_
            obtain rfl := Option.some.inj hf
            rw [h0 _ hK]
            exact z_iret dX10_mend_63 rfl rfl
          · rw [if_neg hc] at hf
            refine z_iconst (pc := 52) dX10_mend_52 ki_n1 ?_
            obtain rfl := Option.some.inj hf
            rw [h0 _ hK]
            exact z_iret dX10_mend_53 rfl rfl
  · rw [if_pos hc] at hf
    refine z_aload_n (pc := 4) (i := 0) (j := 0) dX10_mend_4 rfl rfl ?_
    refine z_ogetR (pc := 5) dX10_mend_5 lf_RX10_21 sh_0 rfl rfl rfl ?_
    refine z_iload_n (pc := 8) (i := 1) (j := 1) dX10_mend_8 rfl rfl ?_
    obtain ⟨q2, hq2, hf⟩ := Option.bind_eq_some_iff.mp hf
    refine z_oVi (pc := 9) (as := [.int v1]) (rest := []) dX10_mend_9 lm_RX10_101 mf_X4_has mi_X4_has mv_X4_has rc_6 rfl rfl (Nat.le_of_ble_eq_true rfl) (c_X4_has e (by omega) v1 m hq2) ?_
    refine z_if_eq (pc := 12) (tgt := 22) dX10_mend_12 (by decide) (fun hc => ?_) (fun hc => ?_)
    · rw [if_pos hc] at hf
      refine z_iconst (pc := 22) dX10_mend_22 ki_n1 ?_
      obtain rfl := Option.some.inj hf
      rw [h0 _ hK]
      exact z_iret dX10_mend_23 rfl rfl
    · rw [if_neg hc] at hf
      refine z_iload_n (pc := 15) (i := 3) (j := 3) dX10_mend_15 rfl rfl ?_
      obtain ⟨q3, hq3, hf⟩ := Option.bind_eq_some_iff.mp hf
      refine z_oSi (pc := 16) (as := [.int v3]) (rest := []) dX10_mend_16 lm_RX10_102 mf_X10_isWeight ms_X10_isWeight rfl rfl (Nat.le_of_ble_eq_true rfl) (c_X10_isWeight e (by omega) v3 q2.2 hq3) ?_
      refine z_if_ne (pc := 19) (tgt := 24) dX10_mend_19 (by decide) (fun hc => ?_) (fun hc => ?_)
      · rw [if_neg hc] at hf
        refine z_aload_n (pc := 24) (i := 0) (j := 0) dX10_mend_24 rfl rfl ?_
        refine z_ogetR (pc := 25) dX10_mend_25 lf_RX10_30 sh_0 rfl rfl rfl ?_
        refine z_iload_n (pc := 28) (i := 1) (j := 1) dX10_mend_28 rfl rfl ?_
        refine z_iload_n (pc := 29) (i := 3) (j := 3) dX10_mend_29 rfl rfl ?_
        obtain ⟨q4, hq4, hf⟩ := Option.bind_eq_some_iff.mp hf
        refine z_oVi (pc := 30) (as := [.int v1, .int v3]) (rest := []) dX10_mend_30 lm_RX10_105 mf_X1_change mi_X1_change mv_X1_change rc_11 rfl rfl (Nat.le_of_ble_eq_true rfl) (c_X1_change e (by omega) v1 v3 q3.2 hq4) ?_
        obtain rfl := Option.some.inj hf
        rw [h0 _ hK]
        exact z_iret dX10_mend_33 rfl rfl
      · rw [if_pos hc] at hf
        refine z_iconst (pc := 22) dX10_mend_22 ki_n1 ?_
        obtain rfl := Option.some.inj hf
        rw [h0 _ hK]
        exact z_iret dX10_mend_23 rfl rfl
set_option maxHeartbeats 4000000 in
set_option maxRecDepth 100000 in
theorem c_X10_mend (d : Nat) (hd : 4 ≤ d) (v1 : Int32) (v2 : Int32) (v3 : Int32) (m : ej_M) {q : (Int32 × ej_M)} (hf : f_X10_mend v1 v2 v3 m = some q) : ej_Ct yX10_mend cX10_mend 4 (some .int) d [.ref 0, .int v1, .int v2, .int v3] (ej_sh, m) ((some (Value.int q.1), (ej_sh, q.2)) : Option Value × ej_H) := by
  obtain ⟨e, rfl⟩ : ∃ e, d = e + 1 := ⟨d - 1, by omega⟩
  exact z_met (by decide +kernel) (Nat.le_of_ble_eq_true rfl) (b_X10_mend e (by omega) v1 v2 v3 m (K := fun z => ((some (Value.int q.1), (ej_sh, q.2)) : Option Value × ej_H) = (some (Value.int z.1), (ej_sh, z.2))) hf rfl (fun _ h => h))
def f_X11_lays (v1 : Int32) (v2 : Int32) (v3 : Int32) (m : ej_M) : Option (Unit × ej_M) :=
  if v1 = 0 then
    (oj_st 0 m 42 v2 v3).bind fun m2 =>
    some ((), m2)
  else
    (oj_pf m 41 5 v3).bind fun m1 =>
    some ((), m1)
set_option maxHeartbeats 4000000 in
set_option maxRecDepth 100000 in
theorem b_X11_lays (d : Nat) (v1 : Int32) (v2 : Int32) (v3 : Int32) (m : ej_M) {x : (Unit × ej_M)} {res : Option Value × ej_H} {K : (Unit × ej_M) → Prop} (hf : f_X11_lays v1 v2 v3 m = some x) (hK : K x) (h0 : ∀ q : (Unit × ej_M), K q → res = (none, (ej_sh, q.2))) : ej_Z cX11_lays 4 none RX11 "lays" d 0 [(0, .ref 41), (1, .int v1), (2, .int v2), (3, .int v3)] [] (ej_sh, m) res := by
  unfold f_X11_lays at hf
  refine z_iload_n (pc := 0) (i := 1) (j := 1) dX11_lays_0 rfl rfl ?_
  refine z_if_ne (pc := 1) (tgt := 14) dX11_lays_1 (by decide) (fun hc => ?_) (fun hc => ?_)
  · rw [if_neg hc] at hf
    refine z_aload_n (pc := 14) (i := 0) (j := 0) dX11_lays_14 rfl rfl ?_
    refine z_iload_n (pc := 15) (i := 3) (j := 3) dX11_lays_15 rfl rfl ?_
    obtain ⟨m1, hm1, hf⟩ := Option.bind_eq_some_iff.mp hf
    refine z_oputI (pc := 16) dX11_lays_16 lf_RX11_119 sh_41 rfl hm1 ?_
    obtain rfl := Option.some.inj hf
    rw [h0 _ hK]
    exact z_ret dX11_lays_19 rfl
  · rw [if_pos hc] at hf
    refine z_aload_n (pc := 4) (i := 0) (j := 0) dX11_lays_4 rfl rfl ?_
    refine z_ogetR (pc := 5) dX11_lays_5 lf_RX11_7 sh_41 rfl rfl rfl ?_
    refine z_iload_n (pc := 8) (i := 2) (j := 2) dX11_lays_8 rfl rfl ?_
    refine z_iload_n (pc := 9) (i := 3) (j := 3) dX11_lays_9 rfl rfl ?_
    obtain ⟨m2, hm2, hf⟩ := Option.bind_eq_some_iff.mp hf
    refine z_oiast (pc := 10) dX11_lays_10 hm2 ?_
    refine z_goto (pc := 11) (tgt := 19) dX11_lays_11 (by decide) ?_
    obtain rfl := Option.some.inj hf
    rw [h0 _ hK]
    exact z_ret dX11_lays_19 rfl
set_option maxHeartbeats 4000000 in
set_option maxRecDepth 100000 in
theorem c_X11_lays (d : Nat) (hd : 0 ≤ d) (v1 : Int32) (v2 : Int32) (v3 : Int32) (m : ej_M) {q : (Unit × ej_M)} (hf : f_X11_lays v1 v2 v3 m = some q) : ej_Ct yX11_lays cX11_lays 4 none d [.ref 41, .int v1, .int v2, .int v3] (ej_sh, m) ((none, (ej_sh, q.2)) : Option Value × ej_H) := by
  exact z_met (by decide +kernel) (Nat.le_of_ble_eq_true rfl) (b_X11_lays d v1 v2 v3 m (K := fun z => ((none, (ej_sh, q.2)) : Option Value × ej_H) = (none, (ej_sh, z.2))) hf rfl (fun _ h => h))
def f_X11_valueAt (v1 : Int32) (v2 : Int32) (m : ej_M) : Option (Int32 × ej_M) :=
  if v1 = 0 then
    (oj_ld 0 m 42 v2).bind fun w1 =>
    some (w1, m)
  else
    some ((m.1 41 5), m)
set_option maxHeartbeats 4000000 in
set_option maxRecDepth 100000 in
theorem b_X11_valueAt (d : Nat) (v1 : Int32) (v2 : Int32) (m : ej_M) {x : (Int32 × ej_M)} {res : Option Value × ej_H} {K : (Int32 × ej_M) → Prop} (hf : f_X11_valueAt v1 v2 m = some x) (hK : K x) (h0 : ∀ q : (Int32 × ej_M), K q → res = (some (Value.int q.1), (ej_sh, q.2))) : ej_Z cX11_valueAt 3 (some .int) RX11 "valueAt" d 0 [(0, .ref 41), (1, .int v1), (2, .int v2)] [] (ej_sh, m) res := by
  unfold f_X11_valueAt at hf
  refine z_iload_n (pc := 0) (i := 1) (j := 1) dX11_valueAt_0 rfl rfl ?_
  refine z_if_ne (pc := 1) (tgt := 13) dX11_valueAt_1 (by decide) (fun hc => ?_) (fun hc => ?_)
  · rw [if_neg hc] at hf
    refine z_aload_n (pc := 13) (i := 0) (j := 0) dX11_valueAt_13 rfl rfl ?_
    refine z_ogetI (pc := 14) dX11_valueAt_14 lf_RX11_119 sh_41 rfl rfl ?_
    obtain rfl := Option.some.inj hf
    rw [h0 _ hK]
    exact z_iret dX11_valueAt_17 rfl rfl
  · rw [if_pos hc] at hf
    refine z_aload_n (pc := 4) (i := 0) (j := 0) dX11_valueAt_4 rfl rfl ?_
    refine z_ogetR (pc := 5) dX11_valueAt_5 lf_RX11_7 sh_41 rfl rfl rfl ?_
    refine z_iload_n (pc := 8) (i := 2) (j := 2) dX11_valueAt_8 rfl rfl ?_
    obtain ⟨w1, hw1, hf⟩ := Option.bind_eq_some_iff.mp hf
    refine z_oiald (pc := 9) dX11_valueAt_9 hw1 ?_
    refine z_goto (pc := 10) (tgt := 17) dX11_valueAt_10 (by decide) ?_
    obtain rfl := Option.some.inj hf
    rw [h0 _ hK]
    exact z_iret dX11_valueAt_17 rfl rfl
set_option maxHeartbeats 4000000 in
set_option maxRecDepth 100000 in
theorem c_X11_valueAt (d : Nat) (hd : 0 ≤ d) (v1 : Int32) (v2 : Int32) (m : ej_M) {q : (Int32 × ej_M)} (hf : f_X11_valueAt v1 v2 m = some q) : ej_Ct yX11_valueAt cX11_valueAt 3 (some .int) d [.ref 41, .int v1, .int v2] (ej_sh, m) ((some (Value.int q.1), (ej_sh, q.2)) : Option Value × ej_H) := by
  exact z_met (by decide +kernel) (Nat.le_of_ble_eq_true rfl) (b_X11_valueAt d v1 v2 m (K := fun z => ((some (Value.int q.1), (ej_sh, q.2)) : Option Value × ej_H) = (some (Value.int z.1), (ej_sh, z.2))) hf rfl (fun _ h => h))
