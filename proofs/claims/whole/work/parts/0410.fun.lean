def f_X9_turnEachWay_L12b (v1 : Int32) (v2 : Int32) (v3 : Int32) (v4 : Int32) (m : ej_M) : Option ((Int32 × ej_M) ⊕ ((Int32 × ej_M) ⊕ (Unit × ej_M))) :=
  if v1 ≤ v4 then
    some (Sum.inr (Sum.inl ((v3 + 1), m)))
  else
    (f_X10_copy 30 31 v1 m).bind fun q1 =>
    (f_X10_reverse 31 v3 v4 q1.2).bind fun q2 =>
    (f_X9_reach v1 v2 q2.2).bind fun q3 =>
    some (Sum.inl ((v4 + 1), q3.2))
set_option maxHeartbeats 4000000 in
set_option maxRecDepth 100000 in
theorem b_X9_turnEachWay_L12b (e : Nat) (hd : 5 ≤ e) (v1 : Int32) (v2 : Int32) (v3 : Int32) (v4 : Int32) (m : ej_M) {x : ((Int32 × ej_M) ⊕ ((Int32 × ej_M) ⊕ (Unit × ej_M)))} {res : Option Value × ej_H} {K : ((Int32 × ej_M) ⊕ ((Int32 × ej_M) ⊕ (Unit × ej_M))) → Prop} (hf : f_X9_turnEachWay_L12b v1 v2 v3 v4 m = some x) (hK : K x) (h1 : ∀ q : (Int32 × ej_M), K (Sum.inl q) → ej_Z cX9_turnEachWay 5 none RX9 "turnEachWay" (e + 1) 12 [(0, .ref 28), (1, .int v1), (2, .int v2), (3, .int v3), (4, .int q.1)] [] (ej_sh, q.2) res) (h2 : ∀ q : (Int32 × ej_M), K (Sum.inr (Sum.inl q)) → ej_Z cX9_turnEachWay 5 none RX9 "turnEachWay" (e + 1) 2 [(0, .ref 28), (1, .int v1), (2, .int v2), (3, .int q.1)] [] (ej_sh, q.2) res) (h0 : ∀ q : (Unit × ej_M), K (Sum.inr (Sum.inr q)) → res = (none, (ej_sh, q.2))) : ej_Z cX9_turnEachWay 5 none RX9 "turnEachWay" (e + 1) 12 [(0, .ref 28), (1, .int v1), (2, .int v2), (3, .int v3), (4, .int v4)] [] (ej_sh, m) res := by
  unfold f_X9_turnEachWay_L12b at hf
  refine z_iload (pc := 12) (i := 4) (j := 4) dX9_turnEachWay_12 rfl ?_
  refine z_iload_n (pc := 14) (i := 1) (j := 1) dX9_turnEachWay_14 rfl rfl ?_
  refine z_icmp_ge (pc := 15) (tgt := 52) dX9_turnEachWay_15 (by decide) (fun hc => ?_) (fun hc => ?_)
  · rw [if_pos hc] at hf
    refine z_iinc (pc := 52) (j := 3) (ls' := [(3, .int (v3 + 1)), (0, .ref 28), (1, .int v1), (2, .int v2), (4, .int v4)]) dX9_turnEachWay_52 rfl ki_1 (Nat.le_of_ble_eq_true rfl) rfl ?_
    refine z_goto (pc := 55) (tgt := 2) dX9_turnEachWay_55 (by decide) ?_
    obtain rfl := Option.some.inj hf
    exact z_pick (ls' := [(0, .ref 28), (1, .int v1), (2, .int v2), (3, .int (v3 + 1))]) [1, 2, 3, 0] rfl (h2 ((v3 + 1), m) hK)
  · rw [if_neg hc] at hf
    refine z_aload_n (pc := 18) (i := 0) (j := 0) dX9_turnEachWay_18 rfl rfl ?_
    refine z_ogetR (pc := 19) dX9_turnEachWay_19 lf_RX9_15 sh_28 rfl rfl rfl ?_
    refine z_aload_n (pc := 22) (i := 0) (j := 0) dX9_turnEachWay_22 rfl rfl ?_
    refine z_ogetR (pc := 23) dX9_turnEachWay_23 lf_RX9_18 sh_28 rfl rfl rfl ?_
    refine z_iload_n (pc := 26) (i := 1) (j := 1) dX9_turnEachWay_26 rfl rfl ?_
    obtain ⟨q1, hq1, hf⟩ := Option.bind_eq_some_iff.mp hf
    refine z_oSv (pc := 27) (as := [.ref 30, .ref 31, .int v1]) (rest := []) dX9_turnEachWay_27 lm_RX9_69 mf_X10_copy ms_X10_copy rfl rfl (Nat.le_of_ble_eq_true rfl) (c_X10_copy e (by omega) 30 31 v1 m hq1) ?_
    refine z_aload_n (pc := 30) (i := 0) (j := 0) dX9_turnEachWay_30 rfl rfl ?_
    refine z_ogetR (pc := 31) dX9_turnEachWay_31 lf_RX9_18 sh_28 rfl rfl rfl ?_
    refine z_iload_n (pc := 34) (i := 3) (j := 3) dX9_turnEachWay_34 rfl rfl ?_
    refine z_iload (pc := 35) (i := 4) (j := 4) dX9_turnEachWay_35 rfl ?_
    obtain ⟨q2, hq2, hf⟩ := Option.bind_eq_some_iff.mp hf
    refine z_oSv (pc := 37) (as := [.ref 31, .int v3, .int v4]) (rest := []) dX9_turnEachWay_37 lm_RX9_86 mf_X10_reverse ms_X10_reverse rfl rfl (Nat.le_of_ble_eq_true rfl) (c_X10_reverse e (by omega) 31 v3 v4 q1.2 hq2) ?_
    refine z_aload_n (pc := 40) (i := 0) (j := 0) dX9_turnEachWay_40 rfl rfl ?_
    refine z_iload_n (pc := 41) (i := 1) (j := 1) dX9_turnEachWay_41 rfl rfl ?_
    refine z_iload_n (pc := 42) (i := 2) (j := 2) dX9_turnEachWay_42 rfl rfl ?_
    obtain ⟨q3, hq3, hf⟩ := Option.bind_eq_some_iff.mp hf
    refine z_oVv (pc := 43) (as := [.int v1, .int v2]) (rest := []) dX9_turnEachWay_43 lm_RX9_73 mf_X9_reach mi_X9_reach mv_X9_reach rc_28 rfl rfl (Nat.le_of_ble_eq_true rfl) (c_X9_reach e (by omega) v1 v2 q2.2 hq3) ?_
    refine z_iinc (pc := 46) (j := 4) (ls' := [(4, .int (v4 + 1)), (0, .ref 28), (1, .int v1), (2, .int v2), (3, .int v3)]) dX9_turnEachWay_46 rfl ki_1 (Nat.le_of_ble_eq_true rfl) rfl ?_
    refine z_goto (pc := 49) (tgt := 12) dX9_turnEachWay_49 (by decide) ?_
    obtain rfl := Option.some.inj hf
    exact z_pick (ls' := [(0, .ref 28), (1, .int v1), (2, .int v2), (3, .int v3), (4, .int (v4 + 1))]) [1, 2, 3, 4, 0] rfl (h1 ((v4 + 1), q3.2) hK)
def f_X9_turnEachWay_L12 (v1 : Int32) (v2 : Int32) (v3 : Int32) (v4 : Int32) (m : ej_M) : Option ((Int32 × ej_M) ⊕ (Unit × ej_M)) := oj_loop (fun q : (Int32 × ej_M) => f_X9_turnEachWay_L12b v1 v2 v3 q.1 q.2) oj_FU (v4, m)
set_option maxHeartbeats 4000000 in
set_option maxRecDepth 100000 in
theorem b_X9_turnEachWay_L12 (e : Nat) (hd : 5 ≤ e) (v1 : Int32) (v2 : Int32) (v3 : Int32) (v4 : Int32) (m : ej_M) {x : ((Int32 × ej_M) ⊕ (Unit × ej_M))} {res : Option Value × ej_H} {K : ((Int32 × ej_M) ⊕ (Unit × ej_M)) → Prop} (hf : f_X9_turnEachWay_L12 v1 v2 v3 v4 m = some x) (hK : K x) (h1 : ∀ q : (Int32 × ej_M), K (Sum.inl q) → ej_Z cX9_turnEachWay 5 none RX9 "turnEachWay" (e + 1) 2 [(0, .ref 28), (1, .int v1), (2, .int v2), (3, .int q.1)] [] (ej_sh, q.2) res) (h0 : ∀ q : (Unit × ej_M), K (Sum.inr q) → res = (none, (ej_sh, q.2))) : ej_Z cX9_turnEachWay 5 none RX9 "turnEachWay" (e + 1) 12 [(0, .ref 28), (1, .int v1), (2, .int v2), (3, .int v3), (4, .int v4)] [] (ej_sh, m) res :=
  oj_loop_Z (body := fun q : (Int32 × ej_M) => f_X9_turnEachWay_L12b v1 v2 v3 q.1 q.2) (P := fun q : (Int32 × ej_M) => ej_Z cX9_turnEachWay 5 none RX9 "turnEachWay" (e + 1) 12 [(0, .ref 28), (1, .int v1), (2, .int v2), (3, .int v3), (4, .int q.1)] [] (ej_sh, q.2) res) (K := K) (fun s x hb hl hr => b_X9_turnEachWay_L12b e hd v1 v2 v3  s.1 s.2 (K := fun x => (∀ s' : (Int32 × ej_M), x = Sum.inl s' → ej_Z cX9_turnEachWay 5 none RX9 "turnEachWay" (e + 1) 12 [(0, .ref 28), (1, .int v1), (2, .int v2), (3, .int v3), (4, .int s'.1)] [] (ej_sh, s'.2) res) ∧ ∀ e, x = Sum.inr e → K e) hb ⟨hl, hr⟩ (fun q hq => hq.1 q rfl) (fun q hq => h1 q (hq.2 _ rfl)) (fun q hq => h0 q (hq.2 _ rfl))) oj_FU (v4, m) x hf hK
def f_X9_turnEachWay_L2b (v1 : Int32) (v2 : Int32) (v3 : Int32) (m : ej_M) : Option ((Int32 × ej_M) ⊕ (Unit × ej_M)) :=
  if v1 ≤ v3 then
    some (Sum.inr ((), m))
  else
    f_X9_turnEachWay_L12 v1 v2 v3 (v3 + 1) m
set_option maxHeartbeats 4000000 in
set_option maxRecDepth 100000 in
theorem b_X9_turnEachWay_L2b (e : Nat) (hd : 5 ≤ e) (v1 : Int32) (v2 : Int32) (v3 : Int32) (m : ej_M) {x : ((Int32 × ej_M) ⊕ (Unit × ej_M))} {res : Option Value × ej_H} {K : ((Int32 × ej_M) ⊕ (Unit × ej_M)) → Prop} (hf : f_X9_turnEachWay_L2b v1 v2 v3 m = some x) (hK : K x) (h1 : ∀ q : (Int32 × ej_M), K (Sum.inl q) → ej_Z cX9_turnEachWay 5 none RX9 "turnEachWay" (e + 1) 2 [(0, .ref 28), (1, .int v1), (2, .int v2), (3, .int q.1)] [] (ej_sh, q.2) res) (h0 : ∀ q : (Unit × ej_M), K (Sum.inr q) → res = (none, (ej_sh, q.2))) : ej_Z cX9_turnEachWay 5 none RX9 "turnEachWay" (e + 1) 2 [(0, .ref 28), (1, .int v1), (2, .int v2), (3, .int v3)] [] (ej_sh, m) res := by
  unfold f_X9_turnEachWay_L2b at hf
  refine z_iload_n (pc := 2) (i := 3) (j := 3) dX9_turnEachWay_2 rfl rfl ?_
  refine z_iload_n (pc := 3) (i := 1) (j := 1) dX9_turnEachWay_3 rfl rfl ?_
  refine z_icmp_ge (pc := 4) (tgt := 58) dX9_turnEachWay_4 (by decide) (fun hc => ?_) (fun hc => ?_)
  · rw [if_pos hc] at hf
    obtain rfl := Option.some.inj hf
    rw [h0 _ hK]
    exact z_ret dX9_turnEachWay_58 rfl
  · rw [if_neg hc] at hf
    refine z_iload_n (pc := 7) (i := 3) (j := 3) dX9_turnEachWay_7 rfl rfl ?_
    refine z_iconst (pc := 8) dX9_turnEachWay_8 ki_1 ?_
    refine z_iadd (pc := 9) dX9_turnEachWay_9 ?_
    refine z_istore (pc := 10) (i := 4) (ls' := [(4, .int (v3 + 1)), (0, .ref 28), (1, .int v1), (2, .int v2), (3, .int v3)]) dX9_turnEachWay_10 (Nat.le_of_ble_eq_true rfl) rfl ?_
    exact z_pick [1, 2, 3, 4, 0] rfl (b_X9_turnEachWay_L12 e hd v1 v2 v3 (v3 + 1) m (K := K) hf hK h1 h0)
def f_X9_turnEachWay_L2 (v1 : Int32) (v2 : Int32) (v3 : Int32) (m : ej_M) : Option (Unit × ej_M) := oj_loop (fun q : (Int32 × ej_M) => f_X9_turnEachWay_L2b v1 v2 q.1 q.2) oj_FU (v3, m)
set_option maxHeartbeats 4000000 in
set_option maxRecDepth 100000 in
theorem b_X9_turnEachWay_L2 (e : Nat) (hd : 5 ≤ e) (v1 : Int32) (v2 : Int32) (v3 : Int32) (m : ej_M) {x : (Unit × ej_M)} {res : Option Value × ej_H} {K : (Unit × ej_M) → Prop} (hf : f_X9_turnEachWay_L2 v1 v2 v3 m = some x) (hK : K x) (h0 : ∀ q : (Unit × ej_M), K q → res = (none, (ej_sh, q.2))) : ej_Z cX9_turnEachWay 5 none RX9 "turnEachWay" (e + 1) 2 [(0, .ref 28), (1, .int v1), (2, .int v2), (3, .int v3)] [] (ej_sh, m) res :=
  oj_loop_Z (body := fun q : (Int32 × ej_M) => f_X9_turnEachWay_L2b v1 v2 q.1 q.2) (P := fun q : (Int32 × ej_M) => ej_Z cX9_turnEachWay 5 none RX9 "turnEachWay" (e + 1) 2 [(0, .ref 28), (1, .int v1), (2, .int v2), (3, .int q.1)] [] (ej_sh, q.2) res) (K := K) (fun s x hb hl hr => b_X9_turnEachWay_L2b e hd v1 v2  s.1 s.2 (K := fun x => (∀ s' : (Int32 × ej_M), x = Sum.inl s' → ej_Z cX9_turnEachWay 5 none RX9 "turnEachWay" (e + 1) 2 [(0, .ref 28), (1, .int v1), (2, .int v2), (3, .int s'.1)] [] (ej_sh, s'.2) res) ∧ ∀ e, x = Sum.inr e → K e) hb ⟨hl, hr⟩ (fun q hq => hq.1 q rfl) (fun q hq => h0 q (hq.2 _ rfl))) oj_FU (v3, m) x hf hK
def f_X9_turnEachWay (v1 : Int32) (v2 : Int32) (m : ej_M) : Option (Unit × ej_M) :=
  f_X9_turnEachWay_L2 v1 v2 0 m
set_option maxHeartbeats 4000000 in
set_option maxRecDepth 100000 in
theorem b_X9_turnEachWay (e : Nat) (hd : 5 ≤ e) (v1 : Int32) (v2 : Int32) (m : ej_M) {x : (Unit × ej_M)} {res : Option Value × ej_H} {K : (Unit × ej_M) → Prop} (hf : f_X9_turnEachWay v1 v2 m = some x) (hK : K x) (h0 : ∀ q : (Unit × ej_M), K q → res = (none, (ej_sh, q.2))) : ej_Z cX9_turnEachWay 5 none RX9 "turnEachWay" (e + 1) 0 [(0, .ref 28), (1, .int v1), (2, .int v2)] [] (ej_sh, m) res := by
  unfold f_X9_turnEachWay at hf
  refine z_iconst (pc := 0) dX9_turnEachWay_0 ki_0 ?_
  refine z_istore_n (pc := 1) (i := 3) (ls' := [(3, .int 0), (0, .ref 28), (1, .int v1), (2, .int v2)]) dX9_turnEachWay_1 rfl (Nat.le_of_ble_eq_true rfl) rfl ?_
  exact z_pick [1, 2, 3, 0] rfl (b_X9_turnEachWay_L2 e hd v1 v2 0 m (K := K) hf hK  h0)
set_option maxHeartbeats 4000000 in
set_option maxRecDepth 100000 in
theorem c_X9_turnEachWay (d : Nat) (hd : 6 ≤ d) (v1 : Int32) (v2 : Int32) (m : ej_M) {q : (Unit × ej_M)} (hf : f_X9_turnEachWay v1 v2 m = some q) : ej_Ct yX9_turnEachWay cX9_turnEachWay 5 none d [.ref 28, .int v1, .int v2] (ej_sh, m) ((none, (ej_sh, q.2)) : Option Value × ej_H) := by
  obtain ⟨e, rfl⟩ : ∃ e, d = e + 1 := ⟨d - 1, by omega⟩
  exact z_met (by decide +kernel) (Nat.le_of_ble_eq_true rfl) (b_X9_turnEachWay e (by omega) v1 v2 m (K := fun z => ((none, (ej_sh, q.2)) : Option Value × ej_H) = (none, (ej_sh, z.2))) hf rfl (fun _ h => h))
def f_X9_unpack_L2b (v1 : Int32) (v2 : Int32) (v3 : Int32) (m : ej_M) : Option ((Int32 × ej_M) ⊕ (Unit × ej_M)) :=
  if v2 ≤ v3 then
    some (Sum.inr ((), m))
  else
    (f_X10_lay 30 v3 ((v1 >>> ((3 * v3) &&& 31)) &&& 7) m).bind fun q1 =>
    some (Sum.inl ((v3 + 1), q1.2))
set_option maxHeartbeats 4000000 in
set_option maxRecDepth 100000 in
theorem b_X9_unpack_L2b (e : Nat) (hd : 0 ≤ e) (v1 : Int32) (v2 : Int32) (v3 : Int32) (m : ej_M) {x : ((Int32 × ej_M) ⊕ (Unit × ej_M))} {res : Option Value × ej_H} {K : ((Int32 × ej_M) ⊕ (Unit × ej_M)) → Prop} (hf : f_X9_unpack_L2b v1 v2 v3 m = some x) (hK : K x) (h1 : ∀ q : (Int32 × ej_M), K (Sum.inl q) → ej_Z cX9_unpack 4 none RX9 "unpack" (e + 1) 2 [(0, .ref 28), (1, .int v1), (2, .int v2), (3, .int q.1)] [] (ej_sh, q.2) res) (h0 : ∀ q : (Unit × ej_M), K (Sum.inr q) → res = (none, (ej_sh, q.2))) : ej_Z cX9_unpack 4 none RX9 "unpack" (e + 1) 2 [(0, .ref 28), (1, .int v1), (2, .int v2), (3, .int v3)] [] (ej_sh, m) res := by
  unfold f_X9_unpack_L2b at hf
  refine z_iload_n (pc := 2) (i := 3) (j := 3) dX9_unpack_2 rfl rfl ?_
  refine z_iload_n (pc := 3) (i := 2) (j := 2) dX9_unpack_3 rfl rfl ?_
  refine z_icmp_ge (pc := 4) (tgt := 29) dX9_unpack_4 (by decide) (fun hc => ?_) (fun hc => ?_)
  · rw [if_pos hc] at hf
    obtain rfl := Option.some.inj hf
    rw [h0 _ hK]
    exact z_ret dX9_unpack_29 rfl
  · rw [if_neg hc] at hf
    refine z_aload_n (pc := 7) (i := 0) (j := 0) dX9_unpack_7 rfl rfl ?_
    refine z_ogetR (pc := 8) dX9_unpack_8 lf_RX9_15 sh_28 rfl rfl rfl ?_
    refine z_iload_n (pc := 11) (i := 3) (j := 3) dX9_unpack_11 rfl rfl ?_
    refine z_iload_n (pc := 12) (i := 1) (j := 1) dX9_unpack_12 rfl rfl ?_
    refine z_iconst (pc := 13) dX9_unpack_13 ki_3 ?_
    refine z_iload_n (pc := 14) (i := 3) (j := 3) dX9_unpack_14 rfl rfl ?_
    refine z_imul (pc := 15) dX9_unpack_15 ?_
    refine z_ishr (pc := 16) dX9_unpack_16 ?_
    refine z_bipush (pc := 17) dX9_unpack_17 kb_7 ?_
    refine z_iand (pc := 19) dX9_unpack_19 ?_
    obtain ⟨q1, hq1, hf⟩ := Option.bind_eq_some_iff.mp hf
    refine z_oSv (pc := 20) (as := [.ref 30, .int v3, .int ((v1 >>> ((3 * v3) &&& 31)) &&& 7)]) (rest := []) dX9_unpack_20 lm_RX9_55 mf_X10_lay ms_X10_lay rfl rfl (Nat.le_of_ble_eq_true rfl) (c_X10_lay e (by omega) 30 v3 ((v1 >>> ((3 * v3) &&& 31)) &&& 7) m hq1) ?_
    refine z_iinc (pc := 23) (j := 3) (ls' := [(3, .int (v3 + 1)), (0, .ref 28), (1, .int v1), (2, .int v2)]) dX9_unpack_23 rfl ki_1 (Nat.le_of_ble_eq_true rfl) rfl ?_
    refine z_goto (pc := 26) (tgt := 2) dX9_unpack_26 (by decide) ?_
    obtain rfl := Option.some.inj hf
    exact z_pick (ls' := [(0, .ref 28), (1, .int v1), (2, .int v2), (3, .int (v3 + 1))]) [1, 2, 3, 0] rfl (h1 ((v3 + 1), q1.2) hK)
def f_X9_unpack_L2 (v1 : Int32) (v2 : Int32) (v3 : Int32) (m : ej_M) : Option (Unit × ej_M) := oj_loop (fun q : (Int32 × ej_M) => f_X9_unpack_L2b v1 v2 q.1 q.2) oj_FU (v3, m)
set_option maxHeartbeats 4000000 in
set_option maxRecDepth 100000 in
theorem b_X9_unpack_L2 (e : Nat) (hd : 0 ≤ e) (v1 : Int32) (v2 : Int32) (v3 : Int32) (m : ej_M) {x : (Unit × ej_M)} {res : Option Value × ej_H} {K : (Unit × ej_M) → Prop} (hf : f_X9_unpack_L2 v1 v2 v3 m = some x) (hK : K x) (h0 : ∀ q : (Unit × ej_M), K q → res = (none, (ej_sh, q.2))) : ej_Z cX9_unpack 4 none RX9 "unpack" (e + 1) 2 [(0, .ref 28), (1, .int v1), (2, .int v2), (3, .int v3)] [] (ej_sh, m) res :=
  oj_loop_Z (body := fun q : (Int32 × ej_M) => f_X9_unpack_L2b v1 v2 q.1 q.2) (P := fun q : (Int32 × ej_M) => ej_Z cX9_unpack 4 none RX9 "unpack" (e + 1) 2 [(0, .ref 28), (1, .int v1), (2, .int v2), (3, .int q.1)] [] (ej_sh, q.2) res) (K := K) (fun s x hb hl hr => b_X9_unpack_L2b e hd v1 v2  s.1 s.2 (K := fun x => (∀ s' : (Int32 × ej_M), x = Sum.inl s' → ej_Z cX9_unpack 4 none RX9 "unpack" (e + 1) 2 [(0, .ref 28), (1, .int v1), (2, .int v2), (3, .int s'.1)] [] (ej_sh, s'.2) res) ∧ ∀ e, x = Sum.inr e → K e) hb ⟨hl, hr⟩ (fun q hq => hq.1 q rfl) (fun q hq => h0 q (hq.2 _ rfl))) oj_FU (v3, m) x hf hK
def f_X9_unpack (v1 : Int32) (v2 : Int32) (m : ej_M) : Option (Unit × ej_M) :=
  f_X9_unpack_L2 v1 v2 0 m
set_option maxHeartbeats 4000000 in
set_option maxRecDepth 100000 in
theorem b_X9_unpack (e : Nat) (hd : 0 ≤ e) (v1 : Int32) (v2 : Int32) (m : ej_M) {x : (Unit × ej_M)} {res : Option Value × ej_H} {K : (Unit × ej_M) → Prop} (hf : f_X9_unpack v1 v2 m = some x) (hK : K x) (h0 : ∀ q : (Unit × ej_M), K q → res = (none, (ej_sh, q.2))) : ej_Z cX9_unpack 4 none RX9 "unpack" (e + 1) 0 [(0, .ref 28), (1, .int v1), (2, .int v2)] [] (ej_sh, m) res := by
  unfold f_X9_unpack at hf
  refine z_iconst (pc := 0) dX9_unpack_0 ki_0 ?_
  refine z_istore_n (pc := 1) (i := 3) (ls' := [(3, .int 0), (0, .ref 28), (1, .int v1), (2, .int v2)]) dX9_unpack_1 rfl (Nat.le_of_ble_eq_true rfl) rfl ?_
  exact z_pick [1, 2, 3, 0] rfl (b_X9_unpack_L2 e hd v1 v2 0 m (K := K) hf hK  h0)
set_option maxHeartbeats 4000000 in
set_option maxRecDepth 100000 in
theorem c_X9_unpack (d : Nat) (hd : 1 ≤ d) (v1 : Int32) (v2 : Int32) (m : ej_M) {q : (Unit × ej_M)} (hf : f_X9_unpack v1 v2 m = some q) : ej_Ct yX9_unpack cX9_unpack 4 none d [.ref 28, .int v1, .int v2] (ej_sh, m) ((none, (ej_sh, q.2)) : Option Value × ej_H) := by
  obtain ⟨e, rfl⟩ : ∃ e, d = e + 1 := ⟨d - 1, by omega⟩
  exact z_met (by decide +kernel) (Nat.le_of_ble_eq_true rfl) (b_X9_unpack e (by omega) v1 v2 m (K := fun z => ((none, (ej_sh, q.2)) : Option Value × ej_H) = (none, (ej_sh, z.2))) hf rfl (fun _ h => h))
def f_X9_fewestTurns_B136 (v2 : Int32) (m : ej_M) : Option (Int32 × ej_M) :=
  (f_X10_at 32 v2 m).bind fun q1 =>
  if 0 ≤ q1.1 then
    (f_X10_at 32 v2 q1.2).bind fun q2 =>
    some (q2.1, q2.2)
  else
    some ((-2), q1.2)
set_option maxHeartbeats 4000000 in
set_option maxRecDepth 100000 in
theorem b_X9_fewestTurns_B136 (e : Nat) (hd : 6 ≤ e) (v2 : Int32) (m : ej_M) {x : (Int32 × ej_M)} {res : Option Value × ej_H} {K : (Int32 × ej_M) → Prop} (hf : f_X9_fewestTurns_B136 v2 m = some x) (hK : K x) (h0 : ∀ q : (Int32 × ej_M), K q → res = (some (Value.int q.1), (ej_sh, q.2))) : ej_Z cX9_fewestTurns 4 (some .int) RX9 "fewestTurns" (e + 1) 136 [(0, .ref 28), (2, .int v2)] [] (ej_sh, m) res := by
  unfold f_X9_fewestTurns_B136 at hf
  refine z_aload_n (pc := 136) (i := 0) (j := 0) dX9_fewestTurns_136 rfl rfl ?_
  refine z_ogetR (pc := 137) dX9_fewestTurns_137 lf_RX9_21 sh_28 rfl rfl rfl ?_
  refine z_iload_n (pc := 140) (i := 2) (j := 1) dX9_fewestTurns_140 rfl rfl ?_
  obtain ⟨q1, hq1, hf⟩ := Option.bind_eq_some_iff.mp hf
  refine z_oSi (pc := 141) (as := [.ref 32, .int v2]) (rest := []) dX9_fewestTurns_141 lm_RX9_77 mf_X10_at ms_X10_at rfl rfl (Nat.le_of_ble_eq_true rfl) (c_X10_at e (by omega) 32 v2 m hq1) ?_
  refine z_if_ge (pc := 144) (tgt := 152) dX9_fewestTurns_144 (by decide) (fun hc => ?_) (fun hc => ?_)
  · rw [if_pos hc] at hf
    refine z_aload_n (pc := 152) (i := 0) (j := 0) dX9_fewestTurns_152 rfl rfl ?_
    refine z_ogetR (pc := 153) dX9_fewestTurns_153 lf_RX9_21 sh_28 rfl rfl rfl ?_
    refine z_iload_n (pc := 156) (i := 2) (j := 1) dX9_fewestTurns_156 rfl rfl ?_
    obtain ⟨q2, hq2, hf⟩ := Option.bind_eq_some_iff.mp hf
    refine z_oSi (pc := 157) (as := [.ref 32, .int v2]) (rest := []) dX9_fewestTurns_157 lm_RX9_77 mf_X10_at ms_X10_at rfl rfl (Nat.le_of_ble_eq_true rfl) (c_X10_at e (by omega) 32 v2 q1.2 hq2) ?_
    obtain rfl := Option.some.inj hf
    rw [h0 _ hK]
    exact z_iret dX9_fewestTurns_160 rfl rfl
  · rw [if_neg hc] at hf
    refine z_bipush (pc := 147) dX9_fewestTurns_147 kb_n2 ?_
    refine z_goto (pc := 149) (tgt := 160) dX9_fewestTurns_149 (by decide) ?_
    obtain rfl := Option.some.inj hf
    rw [h0 _ hK]
    exact z_iret dX9_fewestTurns_160 rfl rfl
def f_X9_fewestTurns_L69b (v1 : Int32) (v2 : Int32) (v3 : Int32) (m : ej_M) : Option ((Int32 × ej_M) ⊕ (Int32 × ej_M)) :=
  if 720 ≤ v3 then
    (f_X9_fewestTurns_B136 v2 m).map fun y => (Sum.inr y)
  else
    if (m.1 28 6) ≤ v3 then
      (f_X9_fewestTurns_B136 v2 m).map fun y => (Sum.inr y)
    else
      (f_X10_at 32 v2 m).bind fun q1 =>
      if 0 ≤ q1.1 then
        (f_X9_fewestTurns_B136 v2 q1.2).map fun y => (Sum.inr y)
      else
        (f_X10_at 33 v3 q1.2).bind fun q2 =>
        (f_X9_unpack q2.1 v1 q2.2).bind fun q3 =>
        (f_X9_rank 30 v1 q3.2).bind fun q4 =>
        (f_X10_at 32 q4.1 q4.2).bind fun q5 =>
        (f_X9_turnEachWay v1 (q5.1 + 1) q5.2).bind fun q6 =>
        some (Sum.inl ((v3 + 1), q6.2))
set_option maxHeartbeats 4000000 in
set_option maxRecDepth 100000 in
theorem b_X9_fewestTurns_L69b (e : Nat) (hd : 6 ≤ e) (v1 : Int32) (v2 : Int32) (v3 : Int32) (m : ej_M) {x : ((Int32 × ej_M) ⊕ (Int32 × ej_M))} {res : Option Value × ej_H} {K : ((Int32 × ej_M) ⊕ (Int32 × ej_M)) → Prop} (hf : f_X9_fewestTurns_L69b v1 v2 v3 m = some x) (hK : K x) (h1 : ∀ q : (Int32 × ej_M), K (Sum.inl q) → ej_Z cX9_fewestTurns 4 (some .int) RX9 "fewestTurns" (e + 1) 69 [(0, .ref 28), (1, .int v1), (2, .int v2), (3, .int q.1)] [] (ej_sh, q.2) res) (h0 : ∀ q : (Int32 × ej_M), K (Sum.inr q) → res = (some (Value.int q.1), (ej_sh, q.2))) : ej_Z cX9_fewestTurns 4 (some .int) RX9 "fewestTurns" (e + 1) 69 [(0, .ref 28), (1, .int v1), (2, .int v2), (3, .int v3)] [] (ej_sh, m) res := by
  unfold f_X9_fewestTurns_L69b at hf
  refine z_iload_n (pc := 69) (i := 3) (j := 3) dX9_fewestTurns_69 rfl rfl ?_
  refine z_sipush (pc := 70) dX9_fewestTurns_70 ks_720 ?_
  refine z_icmp_ge (pc := 73) (tgt := 136) dX9_fewestTurns_73 (by decide) (fun hc => ?_) (fun hc => ?_)
  · rw [if_pos hc] at hf
    obtain ⟨y, hy, hxy⟩ := Option.map_eq_some_iff.mp hf
    subst hxy
    exact z_pick [0, 2] rfl (b_X9_fewestTurns_B136 e hd v2 m (K := fun y => K (Sum.inr y)) hy hK  h0)
  · rw [if_neg hc] at hf
    refine z_iload_n (pc := 76) (i := 3) (j := 3) dX9_fewestTurns_76 rfl rfl ?_
    refine z_aload_n (pc := 77) (i := 0) (j := 0) dX9_fewestTurns_77 rfl rfl ?_
    refine z_ogetI (pc := 78) dX9_fewestTurns_78 lf_RX9_63 sh_28 rfl rfl ?_
    refine z_icmp_ge (pc := 81) (tgt := 136) dX9_fewestTurns_81 (by decide) (fun hc => ?_) (fun hc => ?_)
    · rw [if_pos hc] at hf
      obtain ⟨y, hy, hxy⟩ := Option.map_eq_some_iff.mp hf
      subst hxy
      exact z_pick [0, 2] rfl (b_X9_fewestTurns_B136 e hd v2 m (K := fun y => K (Sum.inr y)) hy hK  h0)
    · rw [if_neg hc] at hf
      refine z_aload_n (pc := 84) (i := 0) (j := 0) dX9_fewestTurns_84 rfl rfl ?_
      refine z_ogetR (pc := 85) dX9_fewestTurns_85 lf_RX9_21 sh_28 rfl rfl rfl ?_
      refine z_iload_n (pc := 88) (i := 2) (j := 2) dX9_fewestTurns_88 rfl rfl ?_
      obtain ⟨q1, hq1, hf⟩ := Option.bind_eq_some_iff.mp hf
      refine z_oSi (pc := 89) (as := [.ref 32, .int v2]) (rest := []) dX9_fewestTurns_89 lm_RX9_77 mf_X10_at ms_X10_at rfl rfl (Nat.le_of_ble_eq_true rfl) (c_X10_at e (by omega) 32 v2 m hq1) ?_
      refine z_if_ge (pc := 92) (tgt := 136) dX9_fewestTurns_92 (by decide) (fun hc => ?_) (fun hc => ?_)
      · rw [if_pos hc] at hf
        obtain ⟨y, hy, hxy⟩ := Option.map_eq_some_iff.mp hf
        subst hxy
        exact z_pick [0, 2] rfl (b_X9_fewestTurns_B136 e hd v2 q1.2 (K := fun y => K (Sum.inr y)) hy hK  h0)
      · rw [if_neg hc] at hf
        refine z_aload_n (pc := 95) (i := 0) (j := 0) dX9_fewestTurns_95 rfl rfl ?_
        refine z_aload_n (pc := 96) (i := 0) (j := 0) dX9_fewestTurns_96 rfl rfl ?_
        refine z_ogetR (pc := 97) dX9_fewestTurns_97 lf_RX9_24 sh_28 rfl rfl rfl ?_
        refine z_iload_n (pc := 100) (i := 3) (j := 3) dX9_fewestTurns_100 rfl rfl ?_
        obtain ⟨q2, hq2, hf⟩ := Option.bind_eq_some_iff.mp hf
        refine z_oSi (pc := 101) (as := [.ref 33, .int v3]) (rest := [.ref 28]) dX9_fewestTurns_101 lm_RX9_77 mf_X10_at ms_X10_at rfl rfl (Nat.le_of_ble_eq_true rfl) (c_X10_at e (by omega) 33 v3 q1.2 hq2) ?_
        refine z_iload_n (pc := 104) (i := 1) (j := 1) dX9_fewestTurns_104 rfl rfl ?_
        obtain ⟨q3, hq3, hf⟩ := Option.bind_eq_some_iff.mp hf
        refine z_oVv (pc := 105) (as := [.int q2.1, .int v1]) (rest := []) dX9_fewestTurns_105 lm_RX9_80 mf_X9_unpack mi_X9_unpack mv_X9_unpack rc_28 rfl rfl (Nat.le_of_ble_eq_true rfl) (c_X9_unpack e (by omega) q2.1 v1 q2.2 hq3) ?_
        refine z_aload_n (pc := 108) (i := 0) (j := 0) dX9_fewestTurns_108 rfl rfl ?_
        refine z_iload_n (pc := 109) (i := 1) (j := 1) dX9_fewestTurns_109 rfl rfl ?_
        refine z_aload_n (pc := 110) (i := 0) (j := 0) dX9_fewestTurns_110 rfl rfl ?_
        refine z_ogetR (pc := 111) dX9_fewestTurns_111 lf_RX9_21 sh_28 rfl rfl rfl ?_
        refine z_aload_n (pc := 114) (i := 0) (j := 0) dX9_fewestTurns_114 rfl rfl ?_
        refine z_ogetR (pc := 115) dX9_fewestTurns_115 lf_RX9_15 sh_28 rfl rfl rfl ?_
        refine z_iload_n (pc := 118) (i := 1) (j := 1) dX9_fewestTurns_118 rfl rfl ?_
        obtain ⟨q4, hq4, hf⟩ := Option.bind_eq_some_iff.mp hf
        refine z_oSi (pc := 119) (as := [.ref 30, .int v1]) (rest := [.ref 32, .int v1, .ref 28]) dX9_fewestTurns_119 lm_RX9_59 mf_X9_rank ms_X9_rank rfl rfl (Nat.le_of_ble_eq_true rfl) (c_X9_rank e (by omega) 30 v1 q3.2 hq4) ?_
        obtain ⟨q5, hq5, hf⟩ := Option.bind_eq_some_iff.mp hf
        refine z_oSi (pc := 122) (as := [.ref 32, .int q4.1]) (rest := [.int v1, .ref 28]) dX9_fewestTurns_122 lm_RX9_77 mf_X10_at ms_X10_at rfl rfl (Nat.le_of_ble_eq_true rfl) (c_X10_at e (by omega) 32 q4.1 q4.2 hq5) ?_
        refine z_iconst (pc := 125) dX9_fewestTurns_125 ki_1 ?_
        refine z_iadd (pc := 126) dX9_fewestTurns_126 ?_
        obtain ⟨q6, hq6, hf⟩ := Option.bind_eq_some_iff.mp hf
        refine z_oVv (pc := 127) (as := [.int v1, .int (q5.1 + 1)]) (rest := []) dX9_fewestTurns_127 lm_RX9_83 mf_X9_turnEachWay mi_X9_turnEachWay mv_X9_turnEachWay rc_28 rfl rfl (Nat.le_of_ble_eq_true rfl) (c_X9_turnEachWay e (by omega) v1 (q5.1 + 1) q5.2 hq6) ?_
        refine z_iinc (pc := 130) (j := 3) (ls' := [(3, .int (v3 + 1)), (0, .ref 28), (1, .int v1), (2, .int v2)]) dX9_fewestTurns_130 rfl ki_1 (Nat.le_of_ble_eq_true rfl) rfl ?_
        refine z_goto (pc := 133) (tgt := 69) dX9_fewestTurns_133 (by decide) ?_
        obtain rfl := Option.some.inj hf
        exact z_pick (ls' := [(0, .ref 28), (1, .int v1), (2, .int v2), (3, .int (v3 + 1))]) [1, 2, 3, 0] rfl (h1 ((v3 + 1), q6.2) hK)
def f_X9_fewestTurns_L69 (v1 : Int32) (v2 : Int32) (v3 : Int32) (m : ej_M) : Option (Int32 × ej_M) := oj_loop (fun q : (Int32 × ej_M) => f_X9_fewestTurns_L69b v1 v2 q.1 q.2) oj_FU (v3, m)
set_option maxHeartbeats 4000000 in
set_option maxRecDepth 100000 in
theorem b_X9_fewestTurns_L69 (e : Nat) (hd : 6 ≤ e) (v1 : Int32) (v2 : Int32) (v3 : Int32) (m : ej_M) {x : (Int32 × ej_M)} {res : Option Value × ej_H} {K : (Int32 × ej_M) → Prop} (hf : f_X9_fewestTurns_L69 v1 v2 v3 m = some x) (hK : K x) (h0 : ∀ q : (Int32 × ej_M), K q → res = (some (Value.int q.1), (ej_sh, q.2))) : ej_Z cX9_fewestTurns 4 (some .int) RX9 "fewestTurns" (e + 1) 69 [(0, .ref 28), (1, .int v1), (2, .int v2), (3, .int v3)] [] (ej_sh, m) res :=
  oj_loop_Z (body := fun q : (Int32 × ej_M) => f_X9_fewestTurns_L69b v1 v2 q.1 q.2) (P := fun q : (Int32 × ej_M) => ej_Z cX9_fewestTurns 4 (some .int) RX9 "fewestTurns" (e + 1) 69 [(0, .ref 28), (1, .int v1), (2, .int v2), (3, .int q.1)] [] (ej_sh, q.2) res) (K := K) (fun s x hb hl hr => b_X9_fewestTurns_L69b e hd v1 v2  s.1 s.2 (K := fun x => (∀ s' : (Int32 × ej_M), x = Sum.inl s' → ej_Z cX9_fewestTurns 4 (some .int) RX9 "fewestTurns" (e + 1) 69 [(0, .ref 28), (1, .int v1), (2, .int v2), (3, .int s'.1)] [] (ej_sh, s'.2) res) ∧ ∀ e, x = Sum.inr e → K e) hb ⟨hl, hr⟩ (fun q hq => hq.1 q rfl) (fun q hq => h0 q (hq.2 _ rfl))) oj_FU (v3, m) x hf hK
def f_X9_fewestTurns_L19b (v1 : Int32) (v2 : Int32) (v3 : Int32) (m : ej_M) : Option ((Int32 × ej_M) ⊕ (Int32 × ej_M)) :=
  if 720 ≤ v3 then
    (oj_pf m 28 6 0).bind fun m1 =>
    (f_X10_copy 8 31 v1 m1).bind fun q2 =>
    (f_X9_reach v1 0 q2.2).bind fun q3 =>
    (f_X9_fewestTurns_L69 v1 v2 0 q3.2).map fun y => (Sum.inr y)
  else
    (f_X10_lay 32 v3 (-1) m).bind fun q4 =>
    some (Sum.inl ((v3 + 1), q4.2))
set_option maxHeartbeats 4000000 in
set_option maxRecDepth 100000 in
theorem b_X9_fewestTurns_L19b (e : Nat) (hd : 6 ≤ e) (v1 : Int32) (v2 : Int32) (v3 : Int32) (m : ej_M) {x : ((Int32 × ej_M) ⊕ (Int32 × ej_M))} {res : Option Value × ej_H} {K : ((Int32 × ej_M) ⊕ (Int32 × ej_M)) → Prop} (hf : f_X9_fewestTurns_L19b v1 v2 v3 m = some x) (hK : K x) (h1 : ∀ q : (Int32 × ej_M), K (Sum.inl q) → ej_Z cX9_fewestTurns 4 (some .int) RX9 "fewestTurns" (e + 1) 19 [(0, .ref 28), (1, .int v1), (2, .int v2), (3, .int q.1)] [] (ej_sh, q.2) res) (h0 : ∀ q : (Int32 × ej_M), K (Sum.inr q) → res = (some (Value.int q.1), (ej_sh, q.2))) : ej_Z cX9_fewestTurns 4 (some .int) RX9 "fewestTurns" (e + 1) 19 [(0, .ref 28), (1, .int v1), (2, .int v2), (3, .int v3)] [] (ej_sh, m) res := by
  unfold f_X9_fewestTurns_L19b at hf
  refine z_iload_n (pc := 19) (i := 3) (j := 3) dX9_fewestTurns_19 rfl rfl ?_
  refine z_sipush (pc := 20) dX9_fewestTurns_20 ks_720 ?_
  refine z_icmp_ge (pc := 23) (tgt := 41) dX9_fewestTurns_23 (by decide) (fun hc => ?_) (fun hc => ?_)
  · rw [if_pos hc] at hf
    refine z_aload_n (pc := 41) (i := 0) (j := 0) dX9_fewestTurns_41 rfl rfl ?_
    refine z_iconst (pc := 42) dX9_fewestTurns_42 ki_0 ?_
    obtain ⟨m1, hm1, hf⟩ := Option.bind_eq_some_iff.mp hf
    refine z_oputI (pc := 43) dX9_fewestTurns_43 lf_RX9_63 sh_28 rfl hm1 ?_
    refine z_aload_n (pc := 46) (i := 0) (j := 0) dX9_fewestTurns_46 rfl rfl ?_
    refine z_ogetR (pc := 47) dX9_fewestTurns_47 lf_RX9_27 sh_28 rfl rfl rfl ?_
    refine z_ogetR (pc := 50) dX9_fewestTurns_50 lf_RX9_66 sh_6 rfl rfl rfl ?_
    refine z_aload_n (pc := 53) (i := 0) (j := 0) dX9_fewestTurns_53 rfl rfl ?_
    refine z_ogetR (pc := 54) dX9_fewestTurns_54 lf_RX9_18 sh_28 rfl rfl rfl ?_
    refine z_iload_n (pc := 57) (i := 1) (j := 1) dX9_fewestTurns_57 rfl rfl ?_
    obtain ⟨q2, hq2, hf⟩ := Option.bind_eq_some_iff.mp hf
    refine z_oSv (pc := 58) (as := [.ref 8, .ref 31, .int v1]) (rest := []) dX9_fewestTurns_58 lm_RX9_69 mf_X10_copy ms_X10_copy rfl rfl (Nat.le_of_ble_eq_true rfl) (c_X10_copy e (by omega) 8 31 v1 m1 hq2) ?_
    refine z_aload_n (pc := 61) (i := 0) (j := 0) dX9_fewestTurns_61 rfl rfl ?_
    refine z_iload_n (pc := 62) (i := 1) (j := 1) dX9_fewestTurns_62 rfl rfl ?_
    refine z_iconst (pc := 63) dX9_fewestTurns_63 ki_0 ?_
    obtain ⟨q3, hq3, hf⟩ := Option.bind_eq_some_iff.mp hf
    refine z_oVv (pc := 64) (as := [.int v1, .int 0]) (rest := []) dX9_fewestTurns_64 lm_RX9_73 mf_X9_reach mi_X9_reach mv_X9_reach rc_28 rfl rfl (Nat.le_of_ble_eq_true rfl) (c_X9_reach e (by omega) v1 0 q2.2 hq3) ?_
    refine z_iconst (pc := 67) dX9_fewestTurns_67 ki_0 ?_
    refine z_istore_n (pc := 68) (i := 3) (ls' := [(3, .int 0), (0, .ref 28), (1, .int v1), (2, .int v2)]) dX9_fewestTurns_68 rfl (Nat.le_of_ble_eq_true rfl) rfl ?_
    obtain ⟨y, hy, hxy⟩ := Option.map_eq_some_iff.mp hf
    subst hxy
    exact z_pick [1, 2, 3, 0] rfl (b_X9_fewestTurns_L69 e hd v1 v2 0 q3.2 (K := fun y => K (Sum.inr y)) hy hK  h0)
  · rw [if_neg hc] at hf
    refine z_aload_n (pc := 26) (i := 0) (j := 0) dX9_fewestTurns_26 rfl rfl ?_
    refine z_ogetR (pc := 27) dX9_fewestTurns_27 lf_RX9_21 sh_28 rfl rfl rfl ?_
    refine z_iload_n (pc := 30) (i := 3) (j := 3) dX9_fewestTurns_30 rfl rfl ?_
    refine z_iconst (pc := 31) dX9_fewestTurns_31 ki_n1 ?_
    obtain ⟨q4, hq4, hf⟩ := Option.bind_eq_some_iff.mp hf
    refine z_oSv (pc := 32) (as := [.ref 32, .int v3, .int (-1)]) (rest := []) dX9_fewestTurns_32 lm_RX9_55 mf_X10_lay ms_X10_lay rfl rfl (Nat.le_of_ble_eq_true rfl) (c_X10_lay e (by omega) 32 v3 (-1) m hq4) ?_
    refine z_iinc (pc := 35) (j := 3) (ls' := [(3, .int (v3 + 1)), (0, .ref 28), (1, .int v1), (2, .int v2)]) dX9_fewestTurns_35 rfl ki_1 (Nat.le_of_ble_eq_true rfl) rfl ?_
    refine z_goto (pc := 38) (tgt := 19) dX9_fewestTurns_38 (by decide) ?_
    obtain rfl := Option.some.inj hf
    exact z_pick (ls' := [(0, .ref 28), (1, .int v1), (2, .int v2), (3, .int (v3 + 1))]) [1, 2, 3, 0] rfl (h1 ((v3 + 1), q4.2) hK)
def f_X9_fewestTurns_L19 (v1 : Int32) (v2 : Int32) (v3 : Int32) (m : ej_M) : Option (Int32 × ej_M) := oj_loop (fun q : (Int32 × ej_M) => f_X9_fewestTurns_L19b v1 v2 q.1 q.2) oj_FU (v3, m)
set_option maxHeartbeats 4000000 in
set_option maxRecDepth 100000 in
theorem b_X9_fewestTurns_L19 (e : Nat) (hd : 6 ≤ e) (v1 : Int32) (v2 : Int32) (v3 : Int32) (m : ej_M) {x : (Int32 × ej_M)} {res : Option Value × ej_H} {K : (Int32 × ej_M) → Prop} (hf : f_X9_fewestTurns_L19 v1 v2 v3 m = some x) (hK : K x) (h0 : ∀ q : (Int32 × ej_M), K q → res = (some (Value.int q.1), (ej_sh, q.2))) : ej_Z cX9_fewestTurns 4 (some .int) RX9 "fewestTurns" (e + 1) 19 [(0, .ref 28), (1, .int v1), (2, .int v2), (3, .int v3)] [] (ej_sh, m) res :=
  oj_loop_Z (body := fun q : (Int32 × ej_M) => f_X9_fewestTurns_L19b v1 v2 q.1 q.2) (P := fun q : (Int32 × ej_M) => ej_Z cX9_fewestTurns 4 (some .int) RX9 "fewestTurns" (e + 1) 19 [(0, .ref 28), (1, .int v1), (2, .int v2), (3, .int q.1)] [] (ej_sh, q.2) res) (K := K) (fun s x hb hl hr => b_X9_fewestTurns_L19b e hd v1 v2  s.1 s.2 (K := fun x => (∀ s' : (Int32 × ej_M), x = Sum.inl s' → ej_Z cX9_fewestTurns 4 (some .int) RX9 "fewestTurns" (e + 1) 19 [(0, .ref 28), (1, .int v1), (2, .int v2), (3, .int s'.1)] [] (ej_sh, s'.2) res) ∧ ∀ e, x = Sum.inr e → K e) hb ⟨hl, hr⟩ (fun q hq => hq.1 q rfl) (fun q hq => h0 q (hq.2 _ rfl))) oj_FU (v3, m) x hf hK
def f_X9_fewestTurns  (m : ej_M) : Option (Int32 × ej_M) :=
  (f_X9_rank 29 (m.1 6 4) m).bind fun q1 =>
  f_X9_fewestTurns_L19 (m.1 6 4) q1.1 0 q1.2
set_option maxHeartbeats 4000000 in
set_option maxRecDepth 100000 in
theorem b_X9_fewestTurns (e : Nat) (hd : 6 ≤ e)  (m : ej_M) {x : (Int32 × ej_M)} {res : Option Value × ej_H} {K : (Int32 × ej_M) → Prop} (hf : f_X9_fewestTurns  m = some x) (hK : K x) (h0 : ∀ q : (Int32 × ej_M), K q → res = (some (Value.int q.1), (ej_sh, q.2))) : ej_Z cX9_fewestTurns 4 (some .int) RX9 "fewestTurns" (e + 1) 0 [(0, .ref 28)] [] (ej_sh, m) res := by
  unfold f_X9_fewestTurns at hf
  refine z_aload_n (pc := 0) (i := 0) (j := 0) dX9_fewestTurns_0 rfl rfl ?_
  refine z_ogetR (pc := 1) dX9_fewestTurns_1 lf_RX9_27 sh_28 rfl rfl rfl ?_
  refine z_ogetI (pc := 4) dX9_fewestTurns_4 lf_RX9_31 sh_6 rfl rfl ?_
  refine z_istore_n (pc := 7) (i := 1) (ls' := [(1, .int (m.1 6 4)), (0, .ref 28)]) dX9_fewestTurns_7 rfl (Nat.le_of_ble_eq_true rfl) rfl ?_
  refine z_aload_n (pc := 8) (i := 0) (j := 1) dX9_fewestTurns_8 rfl rfl ?_
  refine z_ogetR (pc := 9) dX9_fewestTurns_9 lf_RX9_11 sh_28 rfl rfl rfl ?_
  refine z_iload_n (pc := 12) (i := 1) (j := 0) dX9_fewestTurns_12 rfl rfl ?_
  obtain ⟨q1, hq1, hf⟩ := Option.bind_eq_some_iff.mp hf
  refine z_oSi (pc := 13) (as := [.ref 29, .int (m.1 6 4)]) (rest := []) dX9_fewestTurns_13 lm_RX9_59 mf_X9_rank ms_X9_rank rfl rfl (Nat.le_of_ble_eq_true rfl) (c_X9_rank e (by omega) 29 (m.1 6 4) m hq1) ?_
  refine z_istore_n (pc := 16) (i := 2) (ls' := [(2, .int q1.1), (1, .int (m.1 6 4)), (0, .ref 28)]) dX9_fewestTurns_16 rfl (Nat.le_of_ble_eq_true rfl) rfl ?_
  refine z_iconst (pc := 17) dX9_fewestTurns_17 ki_0 ?_
  refine z_istore_n (pc := 18) (i := 3) (ls' := [(3, .int 0), (2, .int q1.1), (1, .int (m.1 6 4)), (0, .ref 28)]) dX9_fewestTurns_18 rfl (Nat.le_of_ble_eq_true rfl) rfl ?_
  exact z_pick [3, 2, 1, 0] rfl (b_X9_fewestTurns_L19 e hd (m.1 6 4) q1.1 0 q1.2 (K := K) hf hK  h0)
set_option maxHeartbeats 4000000 in
set_option maxRecDepth 100000 in
theorem c_X9_fewestTurns (d : Nat) (hd : 7 ≤ d)  (m : ej_M) {q : (Int32 × ej_M)} (hf : f_X9_fewestTurns  m = some q) : ej_Ct yX9_fewestTurns cX9_fewestTurns 4 (some .int) d [.ref 28] (ej_sh, m) ((some (Value.int q.1), (ej_sh, q.2)) : Option Value × ej_H) := by
  obtain ⟨e, rfl⟩ : ∃ e, d = e + 1 := ⟨d - 1, by omega⟩
  exact z_met (by decide +kernel) (Nat.le_of_ble_eq_true rfl) (b_X9_fewestTurns e (by omega)  m (K := fun z => ((some (Value.int q.1), (ej_sh, q.2)) : Option Value × ej_H) = (some (Value.int z.1), (ej_sh, z.2))) hf rfl (fun _ h => h))
def f_X4_setOfRow_L4b (v1 : Int32) (v2 : Int32) (m : ej_M) : Option ((Int32 × Int32 × ej_M) ⊕ (Int32 × ej_M)) :=
  if (m.1 6 4) ≤ v2 then
    some (Sum.inr (v1, m))
  else
    (f_X10_at 8 v2 m).bind fun q1 =>
    some (Sum.inl ((v1 ||| (1 <<< (q1.1 &&& 31))), (v2 + 1), q1.2))
set_option maxHeartbeats 4000000 in
set_option maxRecDepth 100000 in
theorem b_X4_setOfRow_L4b (e : Nat) (hd : 0 ≤ e) (v1 : Int32) (v2 : Int32) (m : ej_M) {x : ((Int32 × Int32 × ej_M) ⊕ (Int32 × ej_M))} {res : Option Value × ej_H} {K : ((Int32 × Int32 × ej_M) ⊕ (Int32 × ej_M)) → Prop} (hf : f_X4_setOfRow_L4b v1 v2 m = some x) (hK : K x) (h1 : ∀ q : (Int32 × Int32 × ej_M), K (Sum.inl q) → ej_Z cX4_setOfRow 3 (some .int) RX4 "setOfRow" (e + 1) 4 [(0, .ref 6), (1, .int q.1), (2, .int q.2.1)] [] (ej_sh, q.2.2) res) (h0 : ∀ q : (Int32 × ej_M), K (Sum.inr q) → res = (some (Value.int q.1), (ej_sh, q.2))) : ej_Z cX4_setOfRow 3 (some .int) RX4 "setOfRow" (e + 1) 4 [(0, .ref 6), (1, .int v1), (2, .int v2)] [] (ej_sh, m) res := by
  unfold f_X4_setOfRow_L4b at hf
  refine z_iload_n (pc := 4) (i := 2) (j := 2) dX4_setOfRow_4 rfl rfl ?_
  refine z_aload_n (pc := 5) (i := 0) (j := 0) dX4_setOfRow_5 rfl rfl ?_
  refine z_ogetI (pc := 6) dX4_setOfRow_6 lf_RX4_43 sh_6 rfl rfl ?_
  refine z_icmp_ge (pc := 9) (tgt := 31) dX4_setOfRow_9 (by decide) (fun hc => ?_) (fun hc => ?_)
  · rw [if_pos hc] at hf
    refine z_iload_n (pc := 31) (i := 1) (j := 1) dX4_setOfRow_31 rfl rfl ?_
    obtain rfl := Option.some.inj hf
    rw [h0 _ hK]
    exact z_iret dX4_setOfRow_32 rfl rfl
  · rw [if_neg hc] at hf
    refine z_iload_n (pc := 12) (i := 1) (j := 1) dX4_setOfRow_12 rfl rfl ?_
    refine z_iconst (pc := 13) dX4_setOfRow_13 ki_1 ?_
    refine z_aload_n (pc := 14) (i := 0) (j := 0) dX4_setOfRow_14 rfl rfl ?_
    refine z_ogetR (pc := 15) dX4_setOfRow_15 lf_RX4_15 sh_6 rfl rfl rfl ?_
    refine z_iload_n (pc := 18) (i := 2) (j := 2) dX4_setOfRow_18 rfl rfl ?_
    obtain ⟨q1, hq1, hf⟩ := Option.bind_eq_some_iff.mp hf
    refine z_oSi (pc := 19) (as := [.ref 8, .int v2]) (rest := [.int 1, .int v1]) dX4_setOfRow_19 lm_RX4_46 mf_X10_at ms_X10_at rfl rfl (Nat.le_of_ble_eq_true rfl) (c_X10_at e (by omega) 8 v2 m hq1) ?_
    refine z_ishl (pc := 22) dX4_setOfRow_22 ?_
    refine z_ior (pc := 23) dX4_setOfRow_23 ?_
    refine z_istore_n (pc := 24) (i := 1) (ls' := [(1, .int (v1 ||| (1 <<< (q1.1 &&& 31)))), (0, .ref 6), (2, .int v2)]) dX4_setOfRow_24 rfl (Nat.le_of_ble_eq_true rfl) rfl ?_
    refine z_iinc (pc := 25) (j := 2) (ls' := [(2, .int (v2 + 1)), (1, .int (v1 ||| (1 <<< (q1.1 &&& 31)))), (0, .ref 6)]) dX4_setOfRow_25 rfl ki_1 (Nat.le_of_ble_eq_true rfl) rfl ?_
    refine z_goto (pc := 28) (tgt := 4) dX4_setOfRow_28 (by decide) ?_
    obtain rfl := Option.some.inj hf
    exact z_pick (ls' := [(0, .ref 6), (1, .int (v1 ||| (1 <<< (q1.1 &&& 31)))), (2, .int (v2 + 1))]) [2, 1, 0] rfl (h1 ((v1 ||| (1 <<< (q1.1 &&& 31))), (v2 + 1), q1.2) hK)
def f_X4_setOfRow_L4 (v1 : Int32) (v2 : Int32) (m : ej_M) : Option (Int32 × ej_M) := oj_loop (fun q : (Int32 × Int32 × ej_M) => f_X4_setOfRow_L4b q.1 q.2.1 q.2.2) oj_FU (v1, v2, m)
set_option maxHeartbeats 4000000 in
set_option maxRecDepth 100000 in
theorem b_X4_setOfRow_L4 (e : Nat) (hd : 0 ≤ e) (v1 : Int32) (v2 : Int32) (m : ej_M) {x : (Int32 × ej_M)} {res : Option Value × ej_H} {K : (Int32 × ej_M) → Prop} (hf : f_X4_setOfRow_L4 v1 v2 m = some x) (hK : K x) (h0 : ∀ q : (Int32 × ej_M), K q → res = (some (Value.int q.1), (ej_sh, q.2))) : ej_Z cX4_setOfRow 3 (some .int) RX4 "setOfRow" (e + 1) 4 [(0, .ref 6), (1, .int v1), (2, .int v2)] [] (ej_sh, m) res :=
  oj_loop_Z (body := fun q : (Int32 × Int32 × ej_M) => f_X4_setOfRow_L4b q.1 q.2.1 q.2.2) (P := fun q : (Int32 × Int32 × ej_M) => ej_Z cX4_setOfRow 3 (some .int) RX4 "setOfRow" (e + 1) 4 [(0, .ref 6), (1, .int q.1), (2, .int q.2.1)] [] (ej_sh, q.2.2) res) (K := K) (fun s x hb hl hr => b_X4_setOfRow_L4b e hd  s.1 s.2.1 s.2.2 (K := fun x => (∀ s' : (Int32 × Int32 × ej_M), x = Sum.inl s' → ej_Z cX4_setOfRow 3 (some .int) RX4 "setOfRow" (e + 1) 4 [(0, .ref 6), (1, .int s'.1), (2, .int s'.2.1)] [] (ej_sh, s'.2.2) res) ∧ ∀ e, x = Sum.inr e → K e) hb ⟨hl, hr⟩ (fun q hq => hq.1 q rfl) (fun q hq => h0 q (hq.2 _ rfl))) oj_FU (v1, v2, m) x hf hK
def f_X4_setOfRow  (m : ej_M) : Option (Int32 × ej_M) :=
  f_X4_setOfRow_L4 0 0 m
set_option maxHeartbeats 4000000 in
set_option maxRecDepth 100000 in
theorem b_X4_setOfRow (e : Nat) (hd : 0 ≤ e)  (m : ej_M) {x : (Int32 × ej_M)} {res : Option Value × ej_H} {K : (Int32 × ej_M) → Prop} (hf : f_X4_setOfRow  m = some x) (hK : K x) (h0 : ∀ q : (Int32 × ej_M), K q → res = (some (Value.int q.1), (ej_sh, q.2))) : ej_Z cX4_setOfRow 3 (some .int) RX4 "setOfRow" (e + 1) 0 [(0, .ref 6)] [] (ej_sh, m) res := by
  unfold f_X4_setOfRow at hf
  refine z_iconst (pc := 0) dX4_setOfRow_0 ki_0 ?_
  refine z_istore_n (pc := 1) (i := 1) (ls' := [(1, .int 0), (0, .ref 6)]) dX4_setOfRow_1 rfl (Nat.le_of_ble_eq_true rfl) rfl ?_
  refine z_iconst (pc := 2) dX4_setOfRow_2 ki_0 ?_
  refine z_istore_n (pc := 3) (i := 2) (ls' := [(2, .int 0), (1, .int 0), (0, .ref 6)]) dX4_setOfRow_3 rfl (Nat.le_of_ble_eq_true rfl) rfl ?_
  exact z_pick [2, 1, 0] rfl (b_X4_setOfRow_L4 e hd 0 0 m (K := K) hf hK  h0)
set_option maxHeartbeats 4000000 in
set_option maxRecDepth 100000 in
theorem c_X4_setOfRow (d : Nat) (hd : 1 ≤ d)  (m : ej_M) {q : (Int32 × ej_M)} (hf : f_X4_setOfRow  m = some q) : ej_Ct yX4_setOfRow cX4_setOfRow 3 (some .int) d [.ref 6] (ej_sh, m) ((some (Value.int q.1), (ej_sh, q.2)) : Option Value × ej_H) := by
  obtain ⟨e, rfl⟩ : ∃ e, d = e + 1 := ⟨d - 1, by omega⟩
  exact z_met (by decide +kernel) (Nat.le_of_ble_eq_true rfl) (b_X4_setOfRow e (by omega)  m (K := fun z => ((some (Value.int q.1), (ej_sh, q.2)) : Option Value × ej_H) = (some (Value.int z.1), (ej_sh, z.2))) hf rfl (fun _ h => h))
def f_X9_isTold_L37b (v2 : Int32) (v3 : Int32) (v4 : Int32) (v5 : Int32) (m : ej_M) : Option ((Int32 × Int32 × ej_M) ⊕ (Int32 × ej_M)) :=
  if v3 ≤ v5 then
    some (Sum.inr (1, m))
  else
    (f_X6_valueAt v2 v5 m).bind fun q1 =>
    (f_X4_has (Int64.toInt32 q1.1) q1.2).bind fun q2 =>
    if q2.1 = 0 then
      some (Sum.inr (0, q2.2))
    else
      if ((v4 >>> ((Int64.toInt32 q1.1) &&& 31)) &&& 1) = 0 then
        some (Sum.inr (0, q2.2))
      else
        (f_X10_lay 29 v5 (Int64.toInt32 q1.1) q2.2).bind fun q3 =>
        some (Sum.inl ((v4 &&& ((1 <<< ((Int64.toInt32 q1.1) &&& 31)) ^^^ (-1))), (v5 + 1), q3.2))
set_option maxHeartbeats 4000000 in
set_option maxRecDepth 100000 in
theorem b_X9_isTold_L37b (e : Nat) (hd : 1 ≤ e) (v2 : Int32) (v3 : Int32) (v4 : Int32) (v5 : Int32) (m : ej_M) {x : ((Int32 × Int32 × ej_M) ⊕ (Int32 × ej_M))} {res : Option Value × ej_H} {K : ((Int32 × Int32 × ej_M) ⊕ (Int32 × ej_M)) → Prop} (hf : f_X9_isTold_L37b v2 v3 v4 v5 m = some x) (hK : K x) (h1 : ∀ q : (Int32 × Int32 × ej_M), K (Sum.inl q) → ej_Z cX9_isTold 7 (some .boolean) RX9 "isTold" (e + 1) 37 [(0, .ref 28), (1, .ref 37), (2, .int v2), (3, .int v3), (4, .int q.1), (5, .int q.2.1)] [] (ej_sh, q.2.2) res) (h0 : ∀ q : (Int32 × ej_M), K (Sum.inr q) → res = (some (Value.int q.1), (ej_sh, q.2))) : ej_Z cX9_isTold 7 (some .boolean) RX9 "isTold" (e + 1) 37 [(0, .ref 28), (1, .ref 37), (2, .int v2), (3, .int v3), (4, .int v4), (5, .int v5)] [] (ej_sh, m) res := by
  unfold f_X9_isTold_L37b at hf
  refine z_iload (pc := 37) (i := 5) (j := 5) dX9_isTold_37 rfl ?_
  refine z_iload_n (pc := 39) (i := 3) (j := 3) dX9_isTold_39 rfl rfl ?_
  refine z_icmp_ge (pc := 40) (tgt := 105) dX9_isTold_40 (by decide) (fun hc => ?_) (fun hc => ?_)
  · rw [if_pos hc] at hf
    refine z_iconst (pc := 105) dX9_isTold_105 ki_1 ?_
    obtain rfl := Option.some.inj hf
    rw [h0 _ hK]
    exact z_iret dX9_isTold_106 rfl rfl
  · rw [if_neg hc] at hf
    refine z_aload_n (pc := 43) (i := 1) (j := 1) dX9_isTold_43 rfl rfl ?_
    refine z_iload_n (pc := 44) (i := 2) (j := 2) dX9_isTold_44 rfl rfl ?_
    refine z_iload (pc := 45) (i := 5) (j := 5) dX9_isTold_45 rfl ?_
    obtain ⟨q1, hq1, hf⟩ := Option.bind_eq_some_iff.mp hf
    refine z_oVl (pc := 47) (as := [.int v2, .int v5]) (rest := []) dX9_isTold_47 lm_RX9_47 mf_X6_valueAt mi_X6_valueAt mv_X6_valueAt rc_37 rfl rfl (Nat.le_of_ble_eq_true rfl) (c_X6_valueAt e (by omega) v2 v5 m hq1) ?_
    refine z_l2i (pc := 50) dX9_isTold_50 ?_
    refine z_istore (pc := 51) (i := 6) (ls' := [(6, .int (Int64.toInt32 q1.1)), (0, .ref 28), (1, .ref 37), (2, .int v2), (3, .int v3), (4, .int v4), (5, .int v5)]) dX9_isTold_51 (Nat.le_of_ble_eq_true rfl) rfl ?_
    refine z_aload_n (pc := 53) (i := 0) (j := 1) dX9_isTold_53 rfl rfl ?_
    refine z_ogetR (pc := 54) dX9_isTold_54 lf_RX9_27 sh_28 rfl rfl rfl ?_
    refine z_iload (pc := 57) (i := 6) (j := 0) dX9_isTold_57 rfl ?_
    obtain ⟨q2, hq2, hf⟩ := Option.bind_eq_some_iff.mp hf
    refine z_oVi (pc := 59) (as := [.int (Int64.toInt32 q1.1)]) (rest := []) dX9_isTold_59 lm_RX9_51 mf_X4_has mi_X4_has mv_X4_has rc_6 rfl rfl (Nat.le_of_ble_eq_true rfl) (c_X4_has e (by omega) (Int64.toInt32 q1.1) q1.2 hq2) ?_
    refine z_if_eq (pc := 62) (tgt := 75) dX9_isTold_62 (by decide) (fun hc => ?_) (fun hc => ?_)
    · rw [if_pos hc] at hf
      refine z_iconst (pc := 75) dX9_isTold_75 ki_0 ?_
      obtain rfl := Option.some.inj hf
      rw [h0 _ hK]
      exact z_iret dX9_isTold_76 rfl rfl
    · rw [if_neg hc] at hf
      refine z_iload (pc := 65) (i := 4) (j := 5) dX9_isTold_65 rfl ?_
      refine z_iload (pc := 67) (i := 6) (j := 0) dX9_isTold_67 rfl ?_
      refine z_ishr (pc := 69) dX9_isTold_69 ?_
      refine z_iconst (pc := 70) dX9_isTold_70 ki_1 ?_
      refine z_iand (pc := 71) dX9_isTold_71 ?_
      refine z_if_ne (pc := 72) (tgt := 77) dX9_isTold_72 (by decide) (fun hc => ?_) (fun hc => ?_)
      · rw [if_neg hc] at hf
        refine z_iload (pc := 77) (i := 4) (j := 5) dX9_isTold_77 rfl ?_
        refine z_iconst (pc := 79) dX9_isTold_79 ki_1 ?_
        refine z_iload (pc := 80) (i := 6) (j := 0) dX9_isTold_80 rfl ?_
        refine z_ishl (pc := 82) dX9_isTold_82 ?_
        refine z_iconst (pc := 83) dX9_isTold_83 ki_n1 ?_
        refine z_ixor (pc := 84) dX9_isTold_84 ?_
        refine z_iand (pc := 85) dX9_isTold_85 ?_
        refine z_istore (pc := 86) (i := 4) (ls' := [(4, .int (v4 &&& ((1 <<< ((Int64.toInt32 q1.1) &&& 31)) ^^^ (-1)))), (6, .int (Int64.toInt32 q1.1)), (0, .ref 28), (1, .ref 37), (2, .int v2), (3, .int v3), (5, .int v5)]) dX9_isTold_86 (Nat.le_of_ble_eq_true rfl) rfl ?_
        refine z_aload_n (pc := 88) (i := 0) (j := 2) dX9_isTold_88 rfl rfl ?_
        refine z_ogetR (pc := 89) dX9_isTold_89 lf_RX9_11 sh_28 rfl rfl rfl ?_
        refine z_iload (pc := 92) (i := 5) (j := 6) dX9_isTold_92 rfl ?_
        refine z_iload (pc := 94) (i := 6) (j := 1) dX9_isTold_94 rfl ?_
        obtain ⟨q3, hq3, hf⟩ := Option.bind_eq_some_iff.mp hf
        refine z_oSv (pc := 96) (as := [.ref 29, .int v5, .int (Int64.toInt32 q1.1)]) (rest := []) dX9_isTold_96 lm_RX9_55 mf_X10_lay ms_X10_lay rfl rfl (Nat.le_of_ble_eq_true rfl) (c_X10_lay e (by omega) 29 v5 (Int64.toInt32 q1.1) q2.2 hq3) ?_
        refine z_iinc (pc := 99) (j := 6) (ls' := [(5, .int (v5 + 1)), (4, .int (v4 &&& ((1 <<< ((Int64.toInt32 q1.1) &&& 31)) ^^^ (-1)))), (6, .int (Int64.toInt32 q1.1)), (0, .ref 28), (1, .ref 37), (2, .int v2), (3, .int v3)]) dX9_isTold_99 rfl ki_1 (Nat.le_of_ble_eq_true rfl) rfl ?_
        refine z_goto (pc := 102) (tgt := 37) dX9_isTold_102 (by decide) ?_
        obtain rfl := Option.some.inj hf
        exact z_pick (ls' := [(0, .ref 28), (1, .ref 37), (2, .int v2), (3, .int v3), (4, .int (v4 &&& ((1 <<< ((Int64.toInt32 q1.1) &&& 31)) ^^^ (-1)))), (5, .int (v5 + 1))]) [3, 4, 5, 6, 1, 0] rfl (h1 ((v4 &&& ((1 <<< ((Int64.toInt32 q1.1) &&& 31)) ^^^ (-1))), (v5 + 1), q3.2) hK)
      · rw [if_pos hc] at hf
        refine z_iconst (pc := 75) dX9_isTold_75 ki_0 ?_
        obtain rfl := Option.some.inj hf
        rw [h0 _ hK]
        exact z_iret dX9_isTold_76 rfl rfl
def f_X9_isTold_L37 (v2 : Int32) (v3 : Int32) (v4 : Int32) (v5 : Int32) (m : ej_M) : Option (Int32 × ej_M) := oj_loop (fun q : (Int32 × Int32 × ej_M) => f_X9_isTold_L37b v2 v3 q.1 q.2.1 q.2.2) oj_FU (v4, v5, m)
set_option maxHeartbeats 4000000 in
set_option maxRecDepth 100000 in
theorem b_X9_isTold_L37 (e : Nat) (hd : 1 ≤ e) (v2 : Int32) (v3 : Int32) (v4 : Int32) (v5 : Int32) (m : ej_M) {x : (Int32 × ej_M)} {res : Option Value × ej_H} {K : (Int32 × ej_M) → Prop} (hf : f_X9_isTold_L37 v2 v3 v4 v5 m = some x) (hK : K x) (h0 : ∀ q : (Int32 × ej_M), K q → res = (some (Value.int q.1), (ej_sh, q.2))) : ej_Z cX9_isTold 7 (some .boolean) RX9 "isTold" (e + 1) 37 [(0, .ref 28), (1, .ref 37), (2, .int v2), (3, .int v3), (4, .int v4), (5, .int v5)] [] (ej_sh, m) res :=
  oj_loop_Z (body := fun q : (Int32 × Int32 × ej_M) => f_X9_isTold_L37b v2 v3 q.1 q.2.1 q.2.2) (P := fun q : (Int32 × Int32 × ej_M) => ej_Z cX9_isTold 7 (some .boolean) RX9 "isTold" (e + 1) 37 [(0, .ref 28), (1, .ref 37), (2, .int v2), (3, .int v3), (4, .int q.1), (5, .int q.2.1)] [] (ej_sh, q.2.2) res) (K := K) (fun s x hb hl hr => b_X9_isTold_L37b e hd v2 v3  s.1 s.2.1 s.2.2 (K := fun x => (∀ s' : (Int32 × Int32 × ej_M), x = Sum.inl s' → ej_Z cX9_isTold 7 (some .boolean) RX9 "isTold" (e + 1) 37 [(0, .ref 28), (1, .ref 37), (2, .int v2), (3, .int v3), (4, .int s'.1), (5, .int s'.2.1)] [] (ej_sh, s'.2.2) res) ∧ ∀ e, x = Sum.inr e → K e) hb ⟨hl, hr⟩ (fun q hq => hq.1 q rfl) (fun q hq => h0 q (hq.2 _ rfl))) oj_FU (v4, v5, m) x hf hK
def f_X9_isTold (v2 : Int32) (m : ej_M) : Option (Int32 × ej_M) :=
  if 6 < (m.1 6 4) then
    some (0, m)
  else
    (f_X6_length v2 m).bind fun q1 =>
    if q1.1 = (m.1 6 4) then
      (f_X4_setOfRow q1.2).bind fun q2 =>
      f_X9_isTold_L37 v2 (m.1 6 4) q2.1 0 q2.2
    else
      some (0, q1.2)
set_option maxHeartbeats 4000000 in
set_option maxRecDepth 100000 in
theorem b_X9_isTold (e : Nat) (hd : 1 ≤ e) (v2 : Int32) (m : ej_M) {x : (Int32 × ej_M)} {res : Option Value × ej_H} {K : (Int32 × ej_M) → Prop} (hf : f_X9_isTold v2 m = some x) (hK : K x) (h0 : ∀ q : (Int32 × ej_M), K q → res = (some (Value.int q.1), (ej_sh, q.2))) : ej_Z cX9_isTold 7 (some .boolean) RX9 "isTold" (e + 1) 0 [(0, .ref 28), (1, .ref 37), (2, .int v2)] [] (ej_sh, m) res := by
  unfold f_X9_isTold at hf
  refine z_aload_n (pc := 0) (i := 0) (j := 0) dX9_isTold_0 rfl rfl ?_
  refine z_ogetR (pc := 1) dX9_isTold_1 lf_RX9_27 sh_28 rfl rfl rfl ?_
  refine z_ogetI (pc := 4) dX9_isTold_4 lf_RX9_31 sh_6 rfl rfl ?_
  refine z_istore_n (pc := 7) (i := 3) (ls' := [(3, .int (m.1 6 4)), (0, .ref 28), (1, .ref 37), (2, .int v2)]) dX9_isTold_7 rfl (Nat.le_of_ble_eq_true rfl) rfl ?_
  refine z_iload_n (pc := 8) (i := 3) (j := 0) dX9_isTold_8 rfl rfl ?_
  refine z_bipush (pc := 9) dX9_isTold_9 kb_6 ?_
  refine z_icmp_gt (pc := 11) (tgt := 23) dX9_isTold_11 (by decide) (fun hc => ?_) (fun hc => ?_)
  · rw [if_pos hc] at hf
    refine z_iconst (pc := 23) dX9_isTold_23 ki_0 ?_
    obtain rfl := Option.some.inj hf
    rw [h0 _ hK]
    exact z_iret dX9_isTold_24 rfl rfl
  · rw [if_neg hc] at hf
    refine z_aload_n (pc := 14) (i := 1) (j := 2) dX9_isTold_14 rfl rfl ?_
    refine z_iload_n (pc := 15) (i := 2) (j := 3) dX9_isTold_15 rfl rfl ?_
    obtain ⟨q1, hq1, hf⟩ := Option.bind_eq_some_iff.mp hf
    refine z_oVi (pc := 16) (as := [.int v2]) (rest := []) dX9_isTold_16 lm_RX9_37 mf_X6_length mi_X6_length mv_X6_length rc_37 rfl rfl (Nat.le_of_ble_eq_true rfl) (c_X6_length e (by omega) v2 m hq1) ?_
    refine z_iload_n (pc := 19) (i := 3) (j := 0) dX9_isTold_19 rfl rfl ?_
    refine z_icmp_eq (pc := 20) (tgt := 25) dX9_isTold_20 (by decide) (fun hc => ?_) (fun hc => ?_)
    · rw [if_pos hc] at hf
      refine z_aload_n (pc := 25) (i := 0) (j := 1) dX9_isTold_25 rfl rfl ?_
      refine z_ogetR (pc := 26) dX9_isTold_26 lf_RX9_27 sh_28 rfl rfl rfl ?_
      obtain ⟨q2, hq2, hf⟩ := Option.bind_eq_some_iff.mp hf
      refine z_oVi (pc := 29) (as := []) (rest := []) dX9_isTold_29 lm_RX9_43 mf_X4_setOfRow mi_X4_setOfRow mv_X4_setOfRow rc_6 rfl rfl (Nat.le_of_ble_eq_true rfl) (c_X4_setOfRow e (by omega) q1.2 hq2) ?_
      refine z_istore (pc := 32) (i := 4) (ls' := [(4, .int q2.1), (3, .int (m.1 6 4)), (0, .ref 28), (1, .ref 37), (2, .int v2)]) dX9_isTold_32 (Nat.le_of_ble_eq_true rfl) rfl ?_
      refine z_iconst (pc := 34) dX9_isTold_34 ki_0 ?_
      refine z_istore (pc := 35) (i := 5) (ls' := [(5, .int 0), (4, .int q2.1), (3, .int (m.1 6 4)), (0, .ref 28), (1, .ref 37), (2, .int v2)]) dX9_isTold_35 (Nat.le_of_ble_eq_true rfl) rfl ?_
      exact z_pick [3, 4, 5, 2, 1, 0] rfl (b_X9_isTold_L37 e hd v2 (m.1 6 4) q2.1 0 q2.2 (K := K) hf hK  h0)
    · rw [if_neg hc] at hf
      refine z_iconst (pc := 23) dX9_isTold_23 ki_0 ?_
      obtain rfl := Option.some.inj hf
      rw [h0 _ hK]
      exact z_iret dX9_isTold_24 rfl rfl
set_option maxHeartbeats 4000000 in
set_option maxRecDepth 100000 in
theorem c_X9_isTold (d : Nat) (hd : 2 ≤ d) (v2 : Int32) (m : ej_M) {q : (Int32 × ej_M)} (hf : f_X9_isTold v2 m = some q) : ej_Ct yX9_isTold cX9_isTold 7 (some .boolean) d [.ref 28, .ref 37, .int v2] (ej_sh, m) ((some (Value.int q.1), (ej_sh, q.2)) : Option Value × ej_H) := by
  obtain ⟨e, rfl⟩ : ∃ e, d = e + 1 := ⟨d - 1, by omega⟩
  exact z_met (by decide +kernel) (Nat.le_of_ble_eq_true rfl) (b_X9_isTold e (by omega) v2 m (K := fun z => ((some (Value.int q.1), (ej_sh, q.2)) : Option Value × ej_H) = (some (Value.int z.1), (ej_sh, z.2))) hf rfl (fun _ h => h))
def f_X10_fewest (v1 : Int32) (m : ej_M) : Option (Int32 × ej_M) :=
  (f_X6_refusesBytes v1 m).bind fun q1 =>
  if q1.1 = 0 then
    (f_X9_isTold v1 q1.2).bind fun q2 =>
    if q2.1 = 0 then
      some ((-5), q2.2)
    else
      (f_X9_fewestTurns q2.2).bind fun q3 =>
      some (q3.1, q3.2)
  else
    some (q1.1, q1.2)
set_option maxHeartbeats 4000000 in
set_option maxRecDepth 100000 in
theorem b_X10_fewest (e : Nat) (hd : 7 ≤ e) (v1 : Int32) (m : ej_M) {x : (Int32 × ej_M)} {res : Option Value × ej_H} {K : (Int32 × ej_M) → Prop} (hf : f_X10_fewest v1 m = some x) (hK : K x) (h0 : ∀ q : (Int32 × ej_M), K q → res = (some (Value.int q.1), (ej_sh, q.2))) : ej_Z cX10_fewest 3 (some .int) RX10 "fewest" (e + 1) 0 [(0, .ref 0), (1, .int v1)] [] (ej_sh, m) res := by
  unfold f_X10_fewest at hf
  refine z_aload_n (pc := 0) (i := 0) (j := 0) dX10_fewest_0 rfl rfl ?_
  refine z_ogetR (pc := 1) dX10_fewest_1 lf_RX10_79 sh_0 rfl rfl rfl ?_
  refine z_iload_n (pc := 4) (i := 1) (j := 1) dX10_fewest_4 rfl rfl ?_
  obtain ⟨q1, hq1, hf⟩ := Option.bind_eq_some_iff.mp hf
  refine z_oVi (pc := 5) (as := [.int v1]) (rest := []) dX10_fewest_5 lm_RX10_91 mf_X6_refusesBytes mi_X6_refusesBytes mv_X6_refusesBytes rc_37 rfl rfl (Nat.le_of_ble_eq_true rfl) (c_X6_refusesBytes e (by omega) v1 m hq1) ?_
  refine z_istore_n (pc := 8) (i := 2) (ls' := [(2, .int q1.1), (0, .ref 0), (1, .int v1)]) dX10_fewest_8 rfl (Nat.le_of_ble_eq_true rfl) rfl ?_
  refine z_iload_n (pc := 9) (i := 2) (j := 0) dX10_fewest_9 rfl rfl ?_
  refine z_if_eq (pc := 10) (tgt := 15) dX10_fewest_10 (by decide) (fun hc => ?_) (fun hc => ?_)
  · rw [if_pos hc] at hf
    refine z_aload_n (pc := 15) (i := 0) (j := 1) dX10_fewest_15 rfl rfl ?_
    refine z_ogetR (pc := 16) dX10_fewest_16 lf_RX10_65 sh_0 rfl rfl rfl ?_
    refine z_aload_n (pc := 19) (i := 0) (j := 1) dX10_fewest_19 rfl rfl ?_
    refine z_ogetR (pc := 20) dX10_fewest_20 lf_RX10_79 sh_0 rfl rfl rfl ?_
    refine z_iload_n (pc := 23) (i := 1) (j := 2) dX10_fewest_23 rfl rfl ?_
    obtain ⟨q2, hq2, hf⟩ := Option.bind_eq_some_iff.mp hf
    refine z_oVi (pc := 24) (as := [.ref 37, .int v1]) (rest := []) dX10_fewest_24 lm_RX10_226 mf_X9_isTold mi_X9_isTold mv_X9_isTold rc_28 rfl rfl (Nat.le_of_ble_eq_true rfl) (c_X9_isTold e (by omega) v1 q1.2 hq2) ?_
    refine z_if_eq (pc := 27) (tgt := 40) dX10_fewest_27 (by decide) (fun hc => ?_) (fun hc => ?_)
    · rw [if_pos hc] at hf
      refine z_bipush (pc := 40) dX10_fewest_40 kb_n5 ?_
      obtain rfl := Option.some.inj hf
      rw [h0 _ hK]
      exact z_iret dX10_fewest_42 rfl rfl
    · rw [if_neg hc] at hf
      refine z_aload_n (pc := 30) (i := 0) (j := 1) dX10_fewest_30 rfl rfl ?_
      refine z_ogetR (pc := 31) dX10_fewest_31 lf_RX10_65 sh_0 rfl rfl rfl ?_
      obtain ⟨q3, hq3, hf⟩ := Option.bind_eq_some_iff.mp hf
      refine z_oVi (pc := 34) (as := []) (rest := []) dX10_fewest_34 lm_RX10_230 mf_X9_fewestTurns mi_X9_fewestTurns mv_X9_fewestTurns rc_28 rfl rfl (Nat.le_of_ble_eq_true rfl) (c_X9_fewestTurns e (by omega) q2.2 hq3) ?_
      refine z_goto (pc := 37) (tgt := 42) dX10_fewest_37 (by decide) ?_
      obtain rfl := Option.some.inj hf
      rw [h0 _ hK]
      exact z_iret dX10_fewest_42 rfl rfl
  · rw [if_neg hc] at hf
    refine z_iload_n (pc := 13) (i := 2) (j := 0) dX10_fewest_13 rfl rfl ?_
    obtain rfl := Option.some.inj hf
    rw [h0 _ hK]
    exact z_iret dX10_fewest_14 rfl rfl
set_option maxHeartbeats 4000000 in
set_option maxRecDepth 100000 in
theorem c_X10_fewest (d : Nat) (hd : 8 ≤ d) (v1 : Int32) (m : ej_M) {q : (Int32 × ej_M)} (hf : f_X10_fewest v1 m = some q) : ej_Ct yX10_fewest cX10_fewest 3 (some .int) d [.ref 0, .int v1] (ej_sh, m) ((some (Value.int q.1), (ej_sh, q.2)) : Option Value × ej_H) := by
  obtain ⟨e, rfl⟩ : ∃ e, d = e + 1 := ⟨d - 1, by omega⟩
  exact z_met (by decide +kernel) (Nat.le_of_ble_eq_true rfl) (b_X10_fewest e (by omega) v1 m (K := fun z => ((some (Value.int q.1), (ej_sh, q.2)) : Option Value × ej_H) = (some (Value.int z.1), (ej_sh, z.2))) hf rfl (fun _ h => h))
def f_X11_ways1_L4b (v0 : Int32) (v1 : Int32) (v2 : Int32) (m : ej_M) : Option ((Int32 × Int32 × ej_M) ⊕ (Int32 × ej_M)) :=
  if v0 < v2 then
    some (Sum.inr (v1, m))
  else
    some (Sum.inl ((v1 * v2), (v2 + 1), m))
set_option maxHeartbeats 4000000 in
set_option maxRecDepth 100000 in
theorem b_X11_ways1_L4b (d : Nat) (v0 : Int32) (v1 : Int32) (v2 : Int32) (m : ej_M) {x : ((Int32 × Int32 × ej_M) ⊕ (Int32 × ej_M))} {res : Option Value × ej_H} {K : ((Int32 × Int32 × ej_M) ⊕ (Int32 × ej_M)) → Prop} (hf : f_X11_ways1_L4b v0 v1 v2 m = some x) (hK : K x) (h1 : ∀ q : (Int32 × Int32 × ej_M), K (Sum.inl q) → ej_Z cX11_ways1 3 (some .int) RX11 "ways1" d 4 [(0, .int v0), (1, .int q.1), (2, .int q.2.1)] [] (ej_sh, q.2.2) res) (h0 : ∀ q : (Int32 × ej_M), K (Sum.inr q) → res = (some (Value.int q.1), (ej_sh, q.2))) : ej_Z cX11_ways1 3 (some .int) RX11 "ways1" d 4 [(0, .int v0), (1, .int v1), (2, .int v2)] [] (ej_sh, m) res := by
  unfold f_X11_ways1_L4b at hf
  refine z_iload_n (pc := 4) (i := 2) (j := 2) dX11_ways1_4 rfl rfl ?_
  refine z_iload_n (pc := 5) (i := 0) (j := 0) dX11_ways1_5 rfl rfl ?_
  refine z_icmp_gt (pc := 6) (tgt := 19) dX11_ways1_6 (by decide) (fun hc => ?_) (fun hc => ?_)
  · rw [if_pos hc] at hf
    refine z_iload_n (pc := 19) (i := 1) (j := 1) dX11_ways1_19 rfl rfl ?_
    obtain rfl := Option.some.inj hf
    rw [h0 _ hK]
    exact z_iret dX11_ways1_20 rfl rfl
  · rw [if_neg hc] at hf
    refine z_iload_n (pc := 9) (i := 1) (j := 1) dX11_ways1_9 rfl rfl ?_
    refine z_iload_n (pc := 10) (i := 2) (j := 2) dX11_ways1_10 rfl rfl ?_
    refine z_imul (pc := 11) dX11_ways1_11 ?_
    refine z_istore_n (pc := 12) (i := 1) (ls' := [(1, .int (v1 * v2)), (0, .int v0), (2, .int v2)]) dX11_ways1_12 rfl (Nat.le_of_ble_eq_true rfl) rfl ?_
    refine z_iinc (pc := 13) (j := 2) (ls' := [(2, .int (v2 + 1)), (1, .int (v1 * v2)), (0, .int v0)]) dX11_ways1_13 rfl ki_1 (Nat.le_of_ble_eq_true rfl) rfl ?_
    refine z_goto (pc := 16) (tgt := 4) dX11_ways1_16 (by decide) ?_
    obtain rfl := Option.some.inj hf
    exact z_pick (ls' := [(0, .int v0), (1, .int (v1 * v2)), (2, .int (v2 + 1))]) [2, 1, 0] rfl (h1 ((v1 * v2), (v2 + 1), m) hK)
def f_X11_ways1_L4 (v0 : Int32) (v1 : Int32) (v2 : Int32) (m : ej_M) : Option (Int32 × ej_M) := oj_loop (fun q : (Int32 × Int32 × ej_M) => f_X11_ways1_L4b v0 q.1 q.2.1 q.2.2) oj_FU (v1, v2, m)
set_option maxHeartbeats 4000000 in
set_option maxRecDepth 100000 in
theorem b_X11_ways1_L4 (d : Nat) (v0 : Int32) (v1 : Int32) (v2 : Int32) (m : ej_M) {x : (Int32 × ej_M)} {res : Option Value × ej_H} {K : (Int32 × ej_M) → Prop} (hf : f_X11_ways1_L4 v0 v1 v2 m = some x) (hK : K x) (h0 : ∀ q : (Int32 × ej_M), K q → res = (some (Value.int q.1), (ej_sh, q.2))) : ej_Z cX11_ways1 3 (some .int) RX11 "ways1" d 4 [(0, .int v0), (1, .int v1), (2, .int v2)] [] (ej_sh, m) res :=
  oj_loop_Z (body := fun q : (Int32 × Int32 × ej_M) => f_X11_ways1_L4b v0 q.1 q.2.1 q.2.2) (P := fun q : (Int32 × Int32 × ej_M) => ej_Z cX11_ways1 3 (some .int) RX11 "ways1" d 4 [(0, .int v0), (1, .int q.1), (2, .int q.2.1)] [] (ej_sh, q.2.2) res) (K := K) (fun s x hb hl hr => b_X11_ways1_L4b d v0  s.1 s.2.1 s.2.2 (K := fun x => (∀ s' : (Int32 × Int32 × ej_M), x = Sum.inl s' → ej_Z cX11_ways1 3 (some .int) RX11 "ways1" d 4 [(0, .int v0), (1, .int s'.1), (2, .int s'.2.1)] [] (ej_sh, s'.2.2) res) ∧ ∀ e, x = Sum.inr e → K e) hb ⟨hl, hr⟩ (fun q hq => hq.1 q rfl) (fun q hq => h0 q (hq.2 _ rfl))) oj_FU (v1, v2, m) x hf hK
def f_X11_ways1 (v0 : Int32) (m : ej_M) : Option (Int32 × ej_M) :=
  f_X11_ways1_L4 v0 1 2 m
set_option maxHeartbeats 4000000 in
set_option maxRecDepth 100000 in
theorem b_X11_ways1 (d : Nat) (v0 : Int32) (m : ej_M) {x : (Int32 × ej_M)} {res : Option Value × ej_H} {K : (Int32 × ej_M) → Prop} (hf : f_X11_ways1 v0 m = some x) (hK : K x) (h0 : ∀ q : (Int32 × ej_M), K q → res = (some (Value.int q.1), (ej_sh, q.2))) : ej_Z cX11_ways1 3 (some .int) RX11 "ways1" d 0 [(0, .int v0)] [] (ej_sh, m) res := by
  unfold f_X11_ways1 at hf
  refine z_iconst (pc := 0) dX11_ways1_0 ki_1 ?_
  refine z_istore_n (pc := 1) (i := 1) (ls' := [(1, .int 1), (0, .int v0)]) dX11_ways1_1 rfl (Nat.le_of_ble_eq_true rfl) rfl ?_
  refine z_iconst (pc := 2) dX11_ways1_2 ki_2 ?_
  refine z_istore_n (pc := 3) (i := 2) (ls' := [(2, .int 2), (1, .int 1), (0, .int v0)]) dX11_ways1_3 rfl (Nat.le_of_ble_eq_true rfl) rfl ?_
  exact z_pick [2, 1, 0] rfl (b_X11_ways1_L4 d v0 1 2 m (K := K) hf hK  h0)
set_option maxHeartbeats 4000000 in
set_option maxRecDepth 100000 in
theorem c_X11_ways1 (d : Nat) (hd : 0 ≤ d) (v0 : Int32) (m : ej_M) {q : (Int32 × ej_M)} (hf : f_X11_ways1 v0 m = some q) : ej_Ct yX11_ways1 cX11_ways1 3 (some .int) d [.int v0] (ej_sh, m) ((some (Value.int q.1), (ej_sh, q.2)) : Option Value × ej_H) := by
  exact z_met (by decide +kernel) (Nat.le_of_ble_eq_true rfl) (b_X11_ways1 d v0 m (K := fun z => ((some (Value.int q.1), (ej_sh, q.2)) : Option Value × ej_H) = (some (Value.int z.1), (ej_sh, z.2))) hf rfl (fun _ h => h))
def f_X11_layRank_B77 (v2 : Int32) (v3 : Int32) (v4 : Int32) (v5 : Int32) (v6 : Int32) (m : ej_M) : Option ((Int32 × Int32 × ej_M) ⊕ ((Int32 × Int32 × Int32 × ej_M) ⊕ (Unit × ej_M))) :=
  (f_X11_standing m).bind fun q1 =>
  if ((q1.1 >>> (v6 &&& 31)) &&& 1) = 1 then
    if ((v2 >>> (v6 &&& 31)) &&& 1) = 0 then
      some (Sum.inl ((v5 + (-1)), (v6 + 1), q1.2))
    else
      some (Sum.inl (v5, (v6 + 1), q1.2))
  else
    some (Sum.inl (v5, (v6 + 1), q1.2))
set_option maxHeartbeats 4000000 in
set_option maxRecDepth 100000 in
theorem b_X11_layRank_B77 (e : Nat) (hd : 0 ≤ e) (v2 : Int32) (v3 : Int32) (v4 : Int32) (v5 : Int32) (v6 : Int32) (m : ej_M) {x : ((Int32 × Int32 × ej_M) ⊕ ((Int32 × Int32 × Int32 × ej_M) ⊕ (Unit × ej_M)))} {res : Option Value × ej_H} {K : ((Int32 × Int32 × ej_M) ⊕ ((Int32 × Int32 × Int32 × ej_M) ⊕ (Unit × ej_M))) → Prop} (hf : f_X11_layRank_B77 v2 v3 v4 v5 v6 m = some x) (hK : K x) (h1 : ∀ q : (Int32 × Int32 × ej_M), K (Sum.inl q) → ej_Z cX11_layRank 7 none RX11 "layRank" (e + 1) 50 [(0, .ref 41), (2, .int v2), (3, .int v3), (4, .int v4), (5, .int q.1), (6, .int q.2.1)] [] (ej_sh, q.2.2) res) (h2 : ∀ q : (Int32 × Int32 × Int32 × ej_M), K (Sum.inr (Sum.inl q)) → ej_Z cX11_layRank 7 none RX11 "layRank" (e + 1) 7 [(0, .ref 41), (2, .int q.1), (3, .int q.2.1), (4, .int q.2.2.1)] [] (ej_sh, q.2.2.2) res) (h0 : ∀ q : (Unit × ej_M), K (Sum.inr (Sum.inr q)) → res = (none, (ej_sh, q.2))) : ej_Z cX11_layRank 7 none RX11 "layRank" (e + 1) 77 [(0, .ref 41), (2, .int v2), (3, .int v3), (4, .int v4), (5, .int v5), (6, .int v6)] [] (ej_sh, m) res := by
  unfold f_X11_layRank_B77 at hf
  refine z_aload_n (pc := 77) (i := 0) (j := 0) dX11_layRank_77 rfl rfl ?_
  obtain ⟨q1, hq1, hf⟩ := Option.bind_eq_some_iff.mp hf
  refine z_oVi (pc := 78) (as := []) (rest := []) dX11_layRank_78 lm_RX11_297 mf_X11_standing mi_X11_standing mv_X11_standing rc_41 rfl rfl (Nat.le_of_ble_eq_true rfl) (c_X11_standing e (by omega) m hq1) ?_
  refine z_iload (pc := 81) (i := 6) (j := 5) dX11_layRank_81 rfl ?_
  refine z_ishr (pc := 83) dX11_layRank_83 ?_
  refine z_iconst (pc := 84) dX11_layRank_84 ki_1 ?_
  refine z_iand (pc := 85) dX11_layRank_85 ?_
  refine z_iconst (pc := 86) dX11_layRank_86 ki_1 ?_
  refine z_icmp_ne (pc := 87) (tgt := 102) dX11_layRank_87 (by decide) (fun hc => ?_) (fun hc => ?_)
  · rw [if_neg hc] at hf
    refine z_iinc (pc := 102) (j := 5) (ls' := [(6, .int (v6 + 1)), (0, .ref 41), (2, .int v2), (3, .int v3), (4, .int v4), (5, .int v5)]) dX11_layRank_102 rfl ki_1 (Nat.le_of_ble_eq_true rfl) rfl ?_
    refine z_goto (pc := 105) (tgt := 50) dX11_layRank_105 (by decide) ?_
    obtain rfl := Option.some.inj hf
    exact z_pick (ls' := [(0, .ref 41), (2, .int v2), (3, .int v3), (4, .int v4), (5, .int v5), (6, .int (v6 + 1))]) [1, 2, 3, 4, 5, 0] rfl (h1 (v5, (v6 + 1), q1.2) hK)
  · rw [if_pos hc] at hf
    refine z_iload_n (pc := 90) (i := 2) (j := 1) dX11_layRank_90 rfl rfl ?_
    refine z_iload (pc := 91) (i := 6) (j := 5) dX11_layRank_91 rfl ?_
    refine z_ishr (pc := 93) dX11_layRank_93 ?_
    refine z_iconst (pc := 94) dX11_layRank_94 ki_1 ?_
    refine z_iand (pc := 95) dX11_layRank_95 ?_
    refine z_if_ne (pc := 96) (tgt := 102) dX11_layRank_96 (by decide) (fun hc => ?_) (fun hc => ?_)
    · rw [if_neg hc] at hf
      refine z_iinc (pc := 102) (j := 5) (ls' := [(6, .int (v6 + 1)), (0, .ref 41), (2, .int v2), (3, .int v3), (4, .int v4), (5, .int v5)]) dX11_layRank_102 rfl ki_1 (Nat.le_of_ble_eq_true rfl) rfl ?_
      refine z_goto (pc := 105) (tgt := 50) dX11_layRank_105 (by decide) ?_
      obtain rfl := Option.some.inj hf
      exact z_pick (ls' := [(0, .ref 41), (2, .int v2), (3, .int v3), (4, .int v4), (5, .int v5), (6, .int (v6 + 1))]) [1, 2, 3, 4, 5, 0] rfl (h1 (v5, (v6 + 1), q1.2) hK)
    · rw [if_pos hc] at hf
      refine z_iinc (pc := 99) (j := 4) (ls' := [(5, .int (v5 + (-1))), (0, .ref 41), (2, .int v2), (3, .int v3), (4, .int v4), (6, .int v6)]) dX11_layRank_99 rfl ki_n1 (Nat.le_of_ble_eq_true rfl) rfl ?_
      refine z_iinc (pc := 102) (j := 5) (ls' := [(6, .int (v6 + 1)), (5, .int (v5 + (-1))), (0, .ref 41), (2, .int v2), (3, .int v3), (4, .int v4)]) dX11_layRank_102 rfl ki_1 (Nat.le_of_ble_eq_true rfl) rfl ?_
      refine z_goto (pc := 105) (tgt := 50) dX11_layRank_105 (by decide) ?_
      obtain rfl := Option.some.inj hf
      exact z_pick (ls' := [(0, .ref 41), (2, .int v2), (3, .int v3), (4, .int v4), (5, .int (v5 + (-1))), (6, .int (v6 + 1))]) [2, 3, 4, 5, 1, 0] rfl (h1 ((v5 + (-1)), (v6 + 1), q1.2) hK)
def f_X11_layRank_L50b (v2 : Int32) (v3 : Int32) (v4 : Int32) (v5 : Int32) (v6 : Int32) (m : ej_M) : Option ((Int32 × Int32 × ej_M) ⊕ ((Int32 × Int32 × Int32 × ej_M) ⊕ (Unit × ej_M))) :=
  (f_X11_standing m).bind fun q1 =>
  if ((q1.1 >>> (v6 &&& 31)) &&& 1) = 0 then
    f_X11_layRank_B77 v2 v3 v4 v5 v6 q1.2
  else
    if ((v2 >>> (v6 &&& 31)) &&& 1) = 1 then
      f_X11_layRank_B77 v2 v3 v4 v5 v6 q1.2
    else
      if v5 ≤ 0 then
        (oj_st 0 q1.2 56 v4 v6).bind fun m2 =>
        some (Sum.inr (Sum.inl ((v2 ||| (1 <<< (v6 &&& 31))), v3, (v4 + 1), m2)))
      else
        f_X11_layRank_B77 v2 v3 v4 v5 v6 q1.2
set_option maxHeartbeats 4000000 in
set_option maxRecDepth 100000 in
theorem b_X11_layRank_L50b (e : Nat) (hd : 0 ≤ e) (v2 : Int32) (v3 : Int32) (v4 : Int32) (v5 : Int32) (v6 : Int32) (m : ej_M) {x : ((Int32 × Int32 × ej_M) ⊕ ((Int32 × Int32 × Int32 × ej_M) ⊕ (Unit × ej_M)))} {res : Option Value × ej_H} {K : ((Int32 × Int32 × ej_M) ⊕ ((Int32 × Int32 × Int32 × ej_M) ⊕ (Unit × ej_M))) → Prop} (hf : f_X11_layRank_L50b v2 v3 v4 v5 v6 m = some x) (hK : K x) (h1 : ∀ q : (Int32 × Int32 × ej_M), K (Sum.inl q) → ej_Z cX11_layRank 7 none RX11 "layRank" (e + 1) 50 [(0, .ref 41), (2, .int v2), (3, .int v3), (4, .int v4), (5, .int q.1), (6, .int q.2.1)] [] (ej_sh, q.2.2) res) (h2 : ∀ q : (Int32 × Int32 × Int32 × ej_M), K (Sum.inr (Sum.inl q)) → ej_Z cX11_layRank 7 none RX11 "layRank" (e + 1) 7 [(0, .ref 41), (2, .int q.1), (3, .int q.2.1), (4, .int q.2.2.1)] [] (ej_sh, q.2.2.2) res) (h0 : ∀ q : (Unit × ej_M), K (Sum.inr (Sum.inr q)) → res = (none, (ej_sh, q.2))) : ej_Z cX11_layRank 7 none RX11 "layRank" (e + 1) 50 [(0, .ref 41), (2, .int v2), (3, .int v3), (4, .int v4), (5, .int v5), (6, .int v6)] [] (ej_sh, m) res := by
  unfold f_X11_layRank_L50b at hf
  refine z_aload_n (pc := 50) (i := 0) (j := 0) dX11_layRank_50 rfl rfl ?_
  obtain ⟨q1, hq1, hf⟩ := Option.bind_eq_some_iff.mp hf
  refine z_oVi (pc := 51) (as := []) (rest := []) dX11_layRank_51 lm_RX11_297 mf_X11_standing mi_X11_standing mv_X11_standing rc_41 rfl rfl (Nat.le_of_ble_eq_true rfl) (c_X11_standing e (by omega) m hq1) ?_
  refine z_iload (pc := 54) (i := 6) (j := 5) dX11_layRank_54 rfl ?_
  refine z_ishr (pc := 56) dX11_layRank_56 ?_
  refine z_iconst (pc := 57) dX11_layRank_57 ki_1 ?_
  refine z_iand (pc := 58) dX11_layRank_58 ?_
  refine z_if_eq (pc := 59) (tgt := 77) dX11_layRank_59 (by decide) (fun hc => ?_) (fun hc => ?_)
  · rw [if_pos hc] at hf
    exact z_pick [0, 1, 2, 3, 4, 5] rfl (b_X11_layRank_B77 e hd v2 v3 v4 v5 v6 q1.2 (K := K) hf hK h1 h2 h0)
  · rw [if_neg hc] at hf
    refine z_iload_n (pc := 62) (i := 2) (j := 1) dX11_layRank_62 rfl rfl ?_
    refine z_iload (pc := 63) (i := 6) (j := 5) dX11_layRank_63 rfl ?_
    refine z_ishr (pc := 65) dX11_layRank_65 ?_
    refine z_iconst (pc := 66) dX11_layRank_66 ki_1 ?_
    refine z_iand (pc := 67) dX11_layRank_67 ?_
    refine z_iconst (pc := 68) dX11_layRank_68 ki_1 ?_
    refine z_icmp_eq (pc := 69) (tgt := 77) dX11_layRank_69 (by decide) (fun hc => ?_) (fun hc => ?_)
    · rw [if_pos hc] at hf
      exact z_pick [0, 1, 2, 3, 4, 5] rfl (b_X11_layRank_B77 e hd v2 v3 v4 v5 v6 q1.2 (K := K) hf hK h1 h2 h0)
    · rw [if_neg hc] at hf
      refine z_iload (pc := 72) (i := 5) (j := 4) dX11_layRank_72 rfl ?_
      refine z_if_le (pc := 74) (tgt := 108) dX11_layRank_74 (by decide) (fun hc => ?_) (fun hc => ?_)
      · rw [if_pos hc] at hf
        refine z_aload_n (pc := 108) (i := 0) (j := 0) dX11_layRank_108 rfl rfl ?_
        refine z_ogetR (pc := 109) dX11_layRank_109 lf_RX11_54 sh_41 rfl rfl rfl ?_
        refine z_iload (pc := 112) (i := 4) (j := 3) dX11_layRank_112 rfl ?_
        refine z_iload (pc := 114) (i := 6) (j := 5) dX11_layRank_114 rfl ?_
        obtain ⟨m2, hm2, hf⟩ := Option.bind_eq_some_iff.mp hf
        refine z_oiast (pc := 116) dX11_layRank_116 hm2 ?_
        refine z_iload_n (pc := 117) (i := 2) (j := 1) dX11_layRank_117 rfl rfl ?_
        refine z_iconst (pc := 118) dX11_layRank_118 ki_1 ?_
        refine z_iload (pc := 119) (i := 6) (j := 5) dX11_layRank_119 rfl ?_
        refine z_ishl (pc := 121) dX11_layRank_121 ?_
        refine z_ior (pc := 122) dX11_layRank_122 ?_
        refine z_istore_n (pc := 123) (i := 2) (ls' := [(2, .int (v2 ||| (1 <<< (v6 &&& 31)))), (0, .ref 41), (3, .int v3), (4, .int v4), (5, .int v5), (6, .int v6)]) dX11_layRank_123 rfl (Nat.le_of_ble_eq_true rfl) rfl ?_
        refine z_iinc (pc := 124) (j := 3) (ls' := [(4, .int (v4 + 1)), (2, .int (v2 ||| (1 <<< (v6 &&& 31)))), (0, .ref 41), (3, .int v3), (5, .int v5), (6, .int v6)]) dX11_layRank_124 rfl ki_1 (Nat.le_of_ble_eq_true rfl) rfl ?_
        refine z_goto (pc := 127) (tgt := 7) dX11_layRank_127 (by decide) ?_
        obtain rfl := Option.some.inj hf
        exact z_pick (ls' := [(0, .ref 41), (2, .int (v2 ||| (1 <<< (v6 &&& 31)))), (3, .int v3), (4, .int (v4 + 1))]) [2, 1, 3, 0] rfl (h2 ((v2 ||| (1 <<< (v6 &&& 31))), v3, (v4 + 1), m2) hK)
      · rw [if_neg hc] at hf
        exact z_pick [0, 1, 2, 3, 4, 5] rfl (b_X11_layRank_B77 e hd v2 v3 v4 v5 v6 q1.2 (K := K) hf hK h1 h2 h0)
def f_X11_layRank_L50 (v2 : Int32) (v3 : Int32) (v4 : Int32) (v5 : Int32) (v6 : Int32) (m : ej_M) : Option ((Int32 × Int32 × Int32 × ej_M) ⊕ (Unit × ej_M)) := oj_loop (fun q : (Int32 × Int32 × ej_M) => f_X11_layRank_L50b v2 v3 v4 q.1 q.2.1 q.2.2) oj_FU (v5, v6, m)
set_option maxHeartbeats 4000000 in
set_option maxRecDepth 100000 in
theorem b_X11_layRank_L50 (e : Nat) (hd : 0 ≤ e) (v2 : Int32) (v3 : Int32) (v4 : Int32) (v5 : Int32) (v6 : Int32) (m : ej_M) {x : ((Int32 × Int32 × Int32 × ej_M) ⊕ (Unit × ej_M))} {res : Option Value × ej_H} {K : ((Int32 × Int32 × Int32 × ej_M) ⊕ (Unit × ej_M)) → Prop} (hf : f_X11_layRank_L50 v2 v3 v4 v5 v6 m = some x) (hK : K x) (h1 : ∀ q : (Int32 × Int32 × Int32 × ej_M), K (Sum.inl q) → ej_Z cX11_layRank 7 none RX11 "layRank" (e + 1) 7 [(0, .ref 41), (2, .int q.1), (3, .int q.2.1), (4, .int q.2.2.1)] [] (ej_sh, q.2.2.2) res) (h0 : ∀ q : (Unit × ej_M), K (Sum.inr q) → res = (none, (ej_sh, q.2))) : ej_Z cX11_layRank 7 none RX11 "layRank" (e + 1) 50 [(0, .ref 41), (2, .int v2), (3, .int v3), (4, .int v4), (5, .int v5), (6, .int v6)] [] (ej_sh, m) res :=
  oj_loop_Z (body := fun q : (Int32 × Int32 × ej_M) => f_X11_layRank_L50b v2 v3 v4 q.1 q.2.1 q.2.2) (P := fun q : (Int32 × Int32 × ej_M) => ej_Z cX11_layRank 7 none RX11 "layRank" (e + 1) 50 [(0, .ref 41), (2, .int v2), (3, .int v3), (4, .int v4), (5, .int q.1), (6, .int q.2.1)] [] (ej_sh, q.2.2) res) (K := K) (fun s x hb hl hr => b_X11_layRank_L50b e hd v2 v3 v4  s.1 s.2.1 s.2.2 (K := fun x => (∀ s' : (Int32 × Int32 × ej_M), x = Sum.inl s' → ej_Z cX11_layRank 7 none RX11 "layRank" (e + 1) 50 [(0, .ref 41), (2, .int v2), (3, .int v3), (4, .int v4), (5, .int s'.1), (6, .int s'.2.1)] [] (ej_sh, s'.2.2) res) ∧ ∀ e, x = Sum.inr e → K e) hb ⟨hl, hr⟩ (fun q hq => hq.1 q rfl) (fun q hq => h1 q (hq.2 _ rfl)) (fun q hq => h0 q (hq.2 _ rfl))) oj_FU (v5, v6, m) x hf hK
def f_X11_layRank_L7b (v2 : Int32) (v3 : Int32) (v4 : Int32) (m : ej_M) : Option ((Int32 × Int32 × Int32 × ej_M) ⊕ (Unit × ej_M)) :=
  if (m.1 41 29) ≤ v4 then
    some (Sum.inr ((), m))
  else
    (f_X11_ways1 (((m.1 41 29) - v4) - 1) m).bind fun q1 =>
    (oj_dv v3 q1.1).bind fun w2 =>
    (f_X11_ways1 (((q1.2.1 41 29) - v4) - 1) q1.2).bind fun q3 =>
    (oj_rm v3 q3.1).bind fun w4 =>
    f_X11_layRank_L50 v2 w4 v4 w2 0 q3.2
set_option maxHeartbeats 4000000 in
set_option maxRecDepth 100000 in
theorem b_X11_layRank_L7b (e : Nat) (hd : 0 ≤ e) (v2 : Int32) (v3 : Int32) (v4 : Int32) (m : ej_M) {x : ((Int32 × Int32 × Int32 × ej_M) ⊕ (Unit × ej_M))} {res : Option Value × ej_H} {K : ((Int32 × Int32 × Int32 × ej_M) ⊕ (Unit × ej_M)) → Prop} (hf : f_X11_layRank_L7b v2 v3 v4 m = some x) (hK : K x) (h1 : ∀ q : (Int32 × Int32 × Int32 × ej_M), K (Sum.inl q) → ej_Z cX11_layRank 7 none RX11 "layRank" (e + 1) 7 [(0, .ref 41), (2, .int q.1), (3, .int q.2.1), (4, .int q.2.2.1)] [] (ej_sh, q.2.2.2) res) (h0 : ∀ q : (Unit × ej_M), K (Sum.inr q) → res = (none, (ej_sh, q.2))) : ej_Z cX11_layRank 7 none RX11 "layRank" (e + 1) 7 [(0, .ref 41), (2, .int v2), (3, .int v3), (4, .int v4)] [] (ej_sh, m) res := by
  unfold f_X11_layRank_L7b at hf
  refine z_iload (pc := 7) (i := 4) (j := 3) dX11_layRank_7 rfl ?_
  refine z_aload_n (pc := 9) (i := 0) (j := 0) dX11_layRank_9 rfl rfl ?_
  refine z_ogetI (pc := 10) dX11_layRank_10 lf_RX11_212 sh_41 rfl rfl ?_
  refine z_icmp_ge (pc := 13) (tgt := 130) dX11_layRank_13 (by decide) (fun hc => ?_) (fun hc => ?_)
  · rw [if_pos hc] at hf
    obtain rfl := Option.some.inj hf
    rw [h0 _ hK]
    exact z_ret dX11_layRank_130 rfl
  · rw [if_neg hc] at hf
    refine z_iload_n (pc := 16) (i := 3) (j := 2) dX11_layRank_16 rfl rfl ?_
    refine z_aload_n (pc := 17) (i := 0) (j := 0) dX11_layRank_17 rfl rfl ?_
    refine z_ogetI (pc := 18) dX11_layRank_18 lf_RX11_212 sh_41 rfl rfl ?_
    refine z_iload (pc := 21) (i := 4) (j := 3) dX11_layRank_21 rfl ?_
    refine z_isub (pc := 23) dX11_layRank_23 ?_
    refine z_iconst (pc := 24) dX11_layRank_24 ki_1 ?_
    refine z_isub (pc := 25) dX11_layRank_25 ?_
    obtain ⟨q1, hq1, hf⟩ := Option.bind_eq_some_iff.mp hf
    refine z_oSi (pc := 26) (as := [.int (((m.1 41 29) - v4) - 1)]) (rest := [.int v3]) dX11_layRank_26 lm_RX11_310 mf_X11_ways1 ms_X11_ways1 rfl rfl (Nat.le_of_ble_eq_true rfl) (c_X11_ways1 e (by omega) (((m.1 41 29) - v4) - 1) m hq1) ?_
    obtain ⟨w2, hw2, hf⟩ := Option.bind_eq_some_iff.mp hf
    refine z_odiv (pc := 29) dX11_layRank_29 hw2 ?_
    refine z_istore (pc := 30) (i := 5) (ls' := [(5, .int w2), (0, .ref 41), (2, .int v2), (3, .int v3), (4, .int v4)]) dX11_layRank_30 (Nat.le_of_ble_eq_true rfl) rfl ?_
    refine z_iload_n (pc := 32) (i := 3) (j := 3) dX11_layRank_32 rfl rfl ?_
    refine z_aload_n (pc := 33) (i := 0) (j := 1) dX11_layRank_33 rfl rfl ?_
    refine z_ogetI (pc := 34) dX11_layRank_34 lf_RX11_212 sh_41 rfl rfl ?_
    refine z_iload (pc := 37) (i := 4) (j := 4) dX11_layRank_37 rfl ?_
    refine z_isub (pc := 39) dX11_layRank_39 ?_
    refine z_iconst (pc := 40) dX11_layRank_40 ki_1 ?_
    refine z_isub (pc := 41) dX11_layRank_41 ?_
    obtain ⟨q3, hq3, hf⟩ := Option.bind_eq_some_iff.mp hf
    refine z_oSi (pc := 42) (as := [.int (((q1.2.1 41 29) - v4) - 1)]) (rest := [.int v3]) dX11_layRank_42 lm_RX11_310 mf_X11_ways1 ms_X11_ways1 rfl rfl (Nat.le_of_ble_eq_true rfl) (c_X11_ways1 e (by omega) (((q1.2.1 41 29) - v4) - 1) q1.2 hq3) ?_
    obtain ⟨w4, hw4, hf⟩ := Option.bind_eq_some_iff.mp hf
    refine z_orem (pc := 45) dX11_layRank_45 hw4 ?_
    refine z_istore_n (pc := 46) (i := 3) (ls' := [(3, .int w4), (5, .int w2), (0, .ref 41), (2, .int v2), (4, .int v4)]) dX11_layRank_46 rfl (Nat.le_of_ble_eq_true rfl) rfl ?_
    refine z_iconst (pc := 47) dX11_layRank_47 ki_0 ?_
    refine z_istore (pc := 48) (i := 6) (ls' := [(6, .int 0), (3, .int w4), (5, .int w2), (0, .ref 41), (2, .int v2), (4, .int v4)]) dX11_layRank_48 (Nat.le_of_ble_eq_true rfl) rfl ?_
    exact z_pick [3, 4, 1, 5, 2, 0] rfl (b_X11_layRank_L50 e hd v2 w4 v4 w2 0 q3.2 (K := K) hf hK h1 h0)
def f_X11_layRank_L7 (v2 : Int32) (v3 : Int32) (v4 : Int32) (m : ej_M) : Option (Unit × ej_M) := oj_loop (fun q : (Int32 × Int32 × Int32 × ej_M) => f_X11_layRank_L7b q.1 q.2.1 q.2.2.1 q.2.2.2) oj_FU (v2, v3, v4, m)
set_option maxHeartbeats 4000000 in
set_option maxRecDepth 100000 in
theorem b_X11_layRank_L7 (e : Nat) (hd : 0 ≤ e) (v2 : Int32) (v3 : Int32) (v4 : Int32) (m : ej_M) {x : (Unit × ej_M)} {res : Option Value × ej_H} {K : (Unit × ej_M) → Prop} (hf : f_X11_layRank_L7 v2 v3 v4 m = some x) (hK : K x) (h0 : ∀ q : (Unit × ej_M), K q → res = (none, (ej_sh, q.2))) : ej_Z cX11_layRank 7 none RX11 "layRank" (e + 1) 7 [(0, .ref 41), (2, .int v2), (3, .int v3), (4, .int v4)] [] (ej_sh, m) res :=
  oj_loop_Z (body := fun q : (Int32 × Int32 × Int32 × ej_M) => f_X11_layRank_L7b q.1 q.2.1 q.2.2.1 q.2.2.2) (P := fun q : (Int32 × Int32 × Int32 × ej_M) => ej_Z cX11_layRank 7 none RX11 "layRank" (e + 1) 7 [(0, .ref 41), (2, .int q.1), (3, .int q.2.1), (4, .int q.2.2.1)] [] (ej_sh, q.2.2.2) res) (K := K) (fun s x hb hl hr => b_X11_layRank_L7b e hd  s.1 s.2.1 s.2.2.1 s.2.2.2 (K := fun x => (∀ s' : (Int32 × Int32 × Int32 × ej_M), x = Sum.inl s' → ej_Z cX11_layRank 7 none RX11 "layRank" (e + 1) 7 [(0, .ref 41), (2, .int s'.1), (3, .int s'.2.1), (4, .int s'.2.2.1)] [] (ej_sh, s'.2.2.2) res) ∧ ∀ e, x = Sum.inr e → K e) hb ⟨hl, hr⟩ (fun q hq => hq.1 q rfl) (fun q hq => h0 q (hq.2 _ rfl))) oj_FU (v2, v3, v4, m) x hf hK
def f_X11_layRank (v1 : Int32) (m : ej_M) : Option (Unit × ej_M) :=
  f_X11_layRank_L7 0 v1 0 m
set_option maxHeartbeats 4000000 in
set_option maxRecDepth 100000 in
theorem b_X11_layRank (e : Nat) (hd : 0 ≤ e) (v1 : Int32) (m : ej_M) {x : (Unit × ej_M)} {res : Option Value × ej_H} {K : (Unit × ej_M) → Prop} (hf : f_X11_layRank v1 m = some x) (hK : K x) (h0 : ∀ q : (Unit × ej_M), K q → res = (none, (ej_sh, q.2))) : ej_Z cX11_layRank 7 none RX11 "layRank" (e + 1) 0 [(0, .ref 41), (1, .int v1)] [] (ej_sh, m) res := by
  unfold f_X11_layRank at hf
  refine z_iconst (pc := 0) dX11_layRank_0 ki_0 ?_
  refine z_istore_n (pc := 1) (i := 2) (ls' := [(2, .int 0), (0, .ref 41), (1, .int v1)]) dX11_layRank_1 rfl (Nat.le_of_ble_eq_true rfl) rfl ?_
  refine z_iload_n (pc := 2) (i := 1) (j := 2) dX11_layRank_2 rfl rfl ?_
  refine z_istore_n (pc := 3) (i := 3) (ls' := [(3, .int v1), (2, .int 0), (0, .ref 41), (1, .int v1)]) dX11_layRank_3 rfl (Nat.le_of_ble_eq_true rfl) rfl ?_
  refine z_iconst (pc := 4) dX11_layRank_4 ki_0 ?_
  refine z_istore (pc := 5) (i := 4) (ls' := [(4, .int 0), (3, .int v1), (2, .int 0), (0, .ref 41), (1, .int v1)]) dX11_layRank_5 (Nat.le_of_ble_eq_true rfl) rfl ?_
  exact z_pick [3, 2, 1, 0] rfl (b_X11_layRank_L7 e hd 0 v1 0 m (K := K) hf hK  h0)
set_option maxHeartbeats 4000000 in
set_option maxRecDepth 100000 in
theorem c_X11_layRank (d : Nat) (hd : 1 ≤ d) (v1 : Int32) (m : ej_M) {q : (Unit × ej_M)} (hf : f_X11_layRank v1 m = some q) : ej_Ct yX11_layRank cX11_layRank 7 none d [.ref 41, .int v1] (ej_sh, m) ((none, (ej_sh, q.2)) : Option Value × ej_H) := by
  obtain ⟨e, rfl⟩ : ∃ e, d = e + 1 := ⟨d - 1, by omega⟩
  exact z_met (by decide +kernel) (Nat.le_of_ble_eq_true rfl) (b_X11_layRank e (by omega) v1 m (K := fun z => ((none, (ej_sh, q.2)) : Option Value × ej_H) = (none, (ej_sh, z.2))) hf rfl (fun _ h => h))
def f_X11_rankOf_L19b (v1 : Int32) (v2 : Int32) (v3 : Int32) (v4 : Int32) (m : ej_M) : Option ((Int32 × Int32 × ej_M) ⊕ ((Int32 × Int32 × ej_M) ⊕ (Int32 × ej_M))) :=
  if (m.1 41 29) ≤ v4 then
    (f_X11_ways1 (((m.1 41 29) - v2) - 1) m).bind fun q1 =>
    some (Sum.inr (Sum.inl ((v1 + (v3 * q1.1)), (v2 + 1), q1.2)))
  else
    (oj_ld 0 m 56 v4).bind fun w2 =>
    (oj_ld 0 m 56 v2).bind fun w3 =>
    if w3 ≤ w2 then
      some (Sum.inl (v3, (v4 + 1), m))
    else
      some (Sum.inl ((v3 + 1), (v4 + 1), m))
set_option maxHeartbeats 4000000 in
set_option maxRecDepth 100000 in
theorem b_X11_rankOf_L19b (e : Nat) (hd : 0 ≤ e) (v1 : Int32) (v2 : Int32) (v3 : Int32) (v4 : Int32) (m : ej_M) {x : ((Int32 × Int32 × ej_M) ⊕ ((Int32 × Int32 × ej_M) ⊕ (Int32 × ej_M)))} {res : Option Value × ej_H} {K : ((Int32 × Int32 × ej_M) ⊕ ((Int32 × Int32 × ej_M) ⊕ (Int32 × ej_M))) → Prop} (hf : f_X11_rankOf_L19b v1 v2 v3 v4 m = some x) (hK : K x) (h1 : ∀ q : (Int32 × Int32 × ej_M), K (Sum.inl q) → ej_Z cX11_rankOf 5 (some .int) RX11 "rankOf" (e + 1) 19 [(0, .ref 41), (1, .int v1), (2, .int v2), (3, .int q.1), (4, .int q.2.1)] [] (ej_sh, q.2.2) res) (h2 : ∀ q : (Int32 × Int32 × ej_M), K (Sum.inr (Sum.inl q)) → ej_Z cX11_rankOf 5 (some .int) RX11 "rankOf" (e + 1) 4 [(0, .ref 41), (1, .int q.1), (2, .int q.2.1)] [] (ej_sh, q.2.2) res) (h0 : ∀ q : (Int32 × ej_M), K (Sum.inr (Sum.inr q)) → res = (some (Value.int q.1), (ej_sh, q.2))) : ej_Z cX11_rankOf 5 (some .int) RX11 "rankOf" (e + 1) 19 [(0, .ref 41), (1, .int v1), (2, .int v2), (3, .int v3), (4, .int v4)] [] (ej_sh, m) res := by
  unfold f_X11_rankOf_L19b at hf
  refine z_iload (pc := 19) (i := 4) (j := 4) dX11_rankOf_19 rfl ?_
  refine z_aload_n (pc := 21) (i := 0) (j := 0) dX11_rankOf_21 rfl rfl ?_
  refine z_ogetI (pc := 22) dX11_rankOf_22 lf_RX11_212 sh_41 rfl rfl ?_
  refine z_icmp_ge (pc := 25) (tgt := 53) dX11_rankOf_25 (by decide) (fun hc => ?_) (fun hc => ?_)
  · rw [if_pos hc] at hf
    refine z_iload_n (pc := 53) (i := 1) (j := 1) dX11_rankOf_53 rfl rfl ?_
    refine z_iload_n (pc := 54) (i := 3) (j := 3) dX11_rankOf_54 rfl rfl ?_
    refine z_aload_n (pc := 55) (i := 0) (j := 0) dX11_rankOf_55 rfl rfl ?_
    refine z_ogetI (pc := 56) dX11_rankOf_56 lf_RX11_212 sh_41 rfl rfl ?_
    refine z_iload_n (pc := 59) (i := 2) (j := 2) dX11_rankOf_59 rfl rfl ?_
    refine z_isub (pc := 60) dX11_rankOf_60 ?_
    refine z_iconst (pc := 61) dX11_rankOf_61 ki_1 ?_
    refine z_isub (pc := 62) dX11_rankOf_62 ?_
    obtain ⟨q1, hq1, hf⟩ := Option.bind_eq_some_iff.mp hf
    refine z_oSi (pc := 63) (as := [.int (((m.1 41 29) - v2) - 1)]) (rest := [.int v3, .int v1]) dX11_rankOf_63 lm_RX11_310 mf_X11_ways1 ms_X11_ways1 rfl rfl (Nat.le_of_ble_eq_true rfl) (c_X11_ways1 e (by omega) (((m.1 41 29) - v2) - 1) m hq1) ?_
    refine z_imul (pc := 66) dX11_rankOf_66 ?_
    refine z_iadd (pc := 67) dX11_rankOf_67 ?_
    refine z_istore_n (pc := 68) (i := 1) (ls' := [(1, .int (v1 + (v3 * q1.1))), (0, .ref 41), (2, .int v2), (3, .int v3), (4, .int v4)]) dX11_rankOf_68 rfl (Nat.le_of_ble_eq_true rfl) rfl ?_
    refine z_iinc (pc := 69) (j := 2) (ls' := [(2, .int (v2 + 1)), (1, .int (v1 + (v3 * q1.1))), (0, .ref 41), (3, .int v3), (4, .int v4)]) dX11_rankOf_69 rfl ki_1 (Nat.le_of_ble_eq_true rfl) rfl ?_
    refine z_goto (pc := 72) (tgt := 4) dX11_rankOf_72 (by decide) ?_
    obtain rfl := Option.some.inj hf
    exact z_pick (ls' := [(0, .ref 41), (1, .int (v1 + (v3 * q1.1))), (2, .int (v2 + 1))]) [2, 1, 0] rfl (h2 ((v1 + (v3 * q1.1)), (v2 + 1), q1.2) hK)
  · rw [if_neg hc] at hf
    refine z_aload_n (pc := 28) (i := 0) (j := 0) dX11_rankOf_28 rfl rfl ?_
    refine z_ogetR (pc := 29) dX11_rankOf_29 lf_RX11_54 sh_41 rfl rfl rfl ?_
    refine z_iload (pc := 32) (i := 4) (j := 4) dX11_rankOf_32 rfl ?_
    obtain ⟨w2, hw2, hf⟩ := Option.bind_eq_some_iff.mp hf
    refine z_oiald (pc := 34) dX11_rankOf_34 hw2 ?_
    refine z_aload_n (pc := 35) (i := 0) (j := 0) dX11_rankOf_35 rfl rfl ?_
    refine z_ogetR (pc := 36) dX11_rankOf_36 lf_RX11_54 sh_41 rfl rfl rfl ?_
    refine z_iload_n (pc := 39) (i := 2) (j := 2) dX11_rankOf_39 rfl rfl ?_
    obtain ⟨w3, hw3, hf⟩ := Option.bind_eq_some_iff.mp hf
    refine z_oiald (pc := 40) dX11_rankOf_40 hw3 ?_
    refine z_icmp_ge (pc := 41) (tgt := 47) dX11_rankOf_41 (by decide) (fun hc => ?_) (fun hc => ?_)
    · rw [if_pos hc] at hf
      refine z_iinc (pc := 47) (j := 4) (ls' := [(4, .int (v4 + 1)), (0, .ref 41), (1, .int v1), (2, .int v2), (3, .int v3)]) dX11_rankOf_47 rfl ki_1 (Nat.le_of_ble_eq_true rfl) rfl ?_
      refine z_goto (pc := 50) (tgt := 19) dX11_rankOf_50 (by decide) ?_
      obtain rfl := Option.some.inj hf
      exact z_pick (ls' := [(0, .ref 41), (1, .int v1), (2, .int v2), (3, .int v3), (4, .int (v4 + 1))]) [1, 2, 3, 4, 0] rfl (h1 (v3, (v4 + 1), m) hK)
    · rw [if_neg hc] at hf
      refine z_iinc (pc := 44) (j := 3) (ls' := [(3, .int (v3 + 1)), (0, .ref 41), (1, .int v1), (2, .int v2), (4, .int v4)]) dX11_rankOf_44 rfl ki_1 (Nat.le_of_ble_eq_true rfl) rfl ?_
      refine z_iinc (pc := 47) (j := 4) (ls' := [(4, .int (v4 + 1)), (3, .int (v3 + 1)), (0, .ref 41), (1, .int v1), (2, .int v2)]) dX11_rankOf_47 rfl ki_1 (Nat.le_of_ble_eq_true rfl) rfl ?_
      refine z_goto (pc := 50) (tgt := 19) dX11_rankOf_50 (by decide) ?_
      obtain rfl := Option.some.inj hf
      exact z_pick (ls' := [(0, .ref 41), (1, .int v1), (2, .int v2), (3, .int (v3 + 1)), (4, .int (v4 + 1))]) [2, 3, 4, 1, 0] rfl (h1 ((v3 + 1), (v4 + 1), m) hK)
def f_X11_rankOf_L19 (v1 : Int32) (v2 : Int32) (v3 : Int32) (v4 : Int32) (m : ej_M) : Option ((Int32 × Int32 × ej_M) ⊕ (Int32 × ej_M)) := oj_loop (fun q : (Int32 × Int32 × ej_M) => f_X11_rankOf_L19b v1 v2 q.1 q.2.1 q.2.2) oj_FU (v3, v4, m)
set_option maxHeartbeats 4000000 in
set_option maxRecDepth 100000 in
theorem b_X11_rankOf_L19 (e : Nat) (hd : 0 ≤ e) (v1 : Int32) (v2 : Int32) (v3 : Int32) (v4 : Int32) (m : ej_M) {x : ((Int32 × Int32 × ej_M) ⊕ (Int32 × ej_M))} {res : Option Value × ej_H} {K : ((Int32 × Int32 × ej_M) ⊕ (Int32 × ej_M)) → Prop} (hf : f_X11_rankOf_L19 v1 v2 v3 v4 m = some x) (hK : K x) (h1 : ∀ q : (Int32 × Int32 × ej_M), K (Sum.inl q) → ej_Z cX11_rankOf 5 (some .int) RX11 "rankOf" (e + 1) 4 [(0, .ref 41), (1, .int q.1), (2, .int q.2.1)] [] (ej_sh, q.2.2) res) (h0 : ∀ q : (Int32 × ej_M), K (Sum.inr q) → res = (some (Value.int q.1), (ej_sh, q.2))) : ej_Z cX11_rankOf 5 (some .int) RX11 "rankOf" (e + 1) 19 [(0, .ref 41), (1, .int v1), (2, .int v2), (3, .int v3), (4, .int v4)] [] (ej_sh, m) res :=
  oj_loop_Z (body := fun q : (Int32 × Int32 × ej_M) => f_X11_rankOf_L19b v1 v2 q.1 q.2.1 q.2.2) (P := fun q : (Int32 × Int32 × ej_M) => ej_Z cX11_rankOf 5 (some .int) RX11 "rankOf" (e + 1) 19 [(0, .ref 41), (1, .int v1), (2, .int v2), (3, .int q.1), (4, .int q.2.1)] [] (ej_sh, q.2.2) res) (K := K) (fun s x hb hl hr => b_X11_rankOf_L19b e hd v1 v2  s.1 s.2.1 s.2.2 (K := fun x => (∀ s' : (Int32 × Int32 × ej_M), x = Sum.inl s' → ej_Z cX11_rankOf 5 (some .int) RX11 "rankOf" (e + 1) 19 [(0, .ref 41), (1, .int v1), (2, .int v2), (3, .int s'.1), (4, .int s'.2.1)] [] (ej_sh, s'.2.2) res) ∧ ∀ e, x = Sum.inr e → K e) hb ⟨hl, hr⟩ (fun q hq => hq.1 q rfl) (fun q hq => h1 q (hq.2 _ rfl)) (fun q hq => h0 q (hq.2 _ rfl))) oj_FU (v3, v4, m) x hf hK
def f_X11_rankOf_L4b (v1 : Int32) (v2 : Int32) (m : ej_M) : Option ((Int32 × Int32 × ej_M) ⊕ (Int32 × ej_M)) :=
  if (m.1 41 29) ≤ v2 then
    some (Sum.inr (v1, m))
  else
    f_X11_rankOf_L19 v1 v2 0 (v2 + 1) m
set_option maxHeartbeats 4000000 in
set_option maxRecDepth 100000 in
theorem b_X11_rankOf_L4b (e : Nat) (hd : 0 ≤ e) (v1 : Int32) (v2 : Int32) (m : ej_M) {x : ((Int32 × Int32 × ej_M) ⊕ (Int32 × ej_M))} {res : Option Value × ej_H} {K : ((Int32 × Int32 × ej_M) ⊕ (Int32 × ej_M)) → Prop} (hf : f_X11_rankOf_L4b v1 v2 m = some x) (hK : K x) (h1 : ∀ q : (Int32 × Int32 × ej_M), K (Sum.inl q) → ej_Z cX11_rankOf 5 (some .int) RX11 "rankOf" (e + 1) 4 [(0, .ref 41), (1, .int q.1), (2, .int q.2.1)] [] (ej_sh, q.2.2) res) (h0 : ∀ q : (Int32 × ej_M), K (Sum.inr q) → res = (some (Value.int q.1), (ej_sh, q.2))) : ej_Z cX11_rankOf 5 (some .int) RX11 "rankOf" (e + 1) 4 [(0, .ref 41), (1, .int v1), (2, .int v2)] [] (ej_sh, m) res := by
  unfold f_X11_rankOf_L4b at hf
  refine z_iload_n (pc := 4) (i := 2) (j := 2) dX11_rankOf_4 rfl rfl ?_
  refine z_aload_n (pc := 5) (i := 0) (j := 0) dX11_rankOf_5 rfl rfl ?_
  refine z_ogetI (pc := 6) dX11_rankOf_6 lf_RX11_212 sh_41 rfl rfl ?_
  refine z_icmp_ge (pc := 9) (tgt := 75) dX11_rankOf_9 (by decide) (fun hc => ?_) (fun hc => ?_)
  · rw [if_pos hc] at hf
    refine z_iload_n (pc := 75) (i := 1) (j := 1) dX11_rankOf_75 rfl rfl ?_
    obtain rfl := Option.some.inj hf
    rw [h0 _ hK]
    exact z_iret dX11_rankOf_76 rfl rfl
  · rw [if_neg hc] at hf
    refine z_iconst (pc := 12) dX11_rankOf_12 ki_0 ?_
    refine z_istore_n (pc := 13) (i := 3) (ls' := [(3, .int 0), (0, .ref 41), (1, .int v1), (2, .int v2)]) dX11_rankOf_13 rfl (Nat.le_of_ble_eq_true rfl) rfl ?_
    refine z_iload_n (pc := 14) (i := 2) (j := 3) dX11_rankOf_14 rfl rfl ?_
    refine z_iconst (pc := 15) dX11_rankOf_15 ki_1 ?_
    refine z_iadd (pc := 16) dX11_rankOf_16 ?_
    refine z_istore (pc := 17) (i := 4) (ls' := [(4, .int (v2 + 1)), (3, .int 0), (0, .ref 41), (1, .int v1), (2, .int v2)]) dX11_rankOf_17 (Nat.le_of_ble_eq_true rfl) rfl ?_
    exact z_pick [2, 3, 4, 1, 0] rfl (b_X11_rankOf_L19 e hd v1 v2 0 (v2 + 1) m (K := K) hf hK h1 h0)
def f_X11_rankOf_L4 (v1 : Int32) (v2 : Int32) (m : ej_M) : Option (Int32 × ej_M) := oj_loop (fun q : (Int32 × Int32 × ej_M) => f_X11_rankOf_L4b q.1 q.2.1 q.2.2) oj_FU (v1, v2, m)
set_option maxHeartbeats 4000000 in
set_option maxRecDepth 100000 in
theorem b_X11_rankOf_L4 (e : Nat) (hd : 0 ≤ e) (v1 : Int32) (v2 : Int32) (m : ej_M) {x : (Int32 × ej_M)} {res : Option Value × ej_H} {K : (Int32 × ej_M) → Prop} (hf : f_X11_rankOf_L4 v1 v2 m = some x) (hK : K x) (h0 : ∀ q : (Int32 × ej_M), K q → res = (some (Value.int q.1), (ej_sh, q.2))) : ej_Z cX11_rankOf 5 (some .int) RX11 "rankOf" (e + 1) 4 [(0, .ref 41), (1, .int v1), (2, .int v2)] [] (ej_sh, m) res :=
  oj_loop_Z (body := fun q : (Int32 × Int32 × ej_M) => f_X11_rankOf_L4b q.1 q.2.1 q.2.2) (P := fun q : (Int32 × Int32 × ej_M) => ej_Z cX11_rankOf 5 (some .int) RX11 "rankOf" (e + 1) 4 [(0, .ref 41), (1, .int q.1), (2, .int q.2.1)] [] (ej_sh, q.2.2) res) (K := K) (fun s x hb hl hr => b_X11_rankOf_L4b e hd  s.1 s.2.1 s.2.2 (K := fun x => (∀ s' : (Int32 × Int32 × ej_M), x = Sum.inl s' → ej_Z cX11_rankOf 5 (some .int) RX11 "rankOf" (e + 1) 4 [(0, .ref 41), (1, .int s'.1), (2, .int s'.2.1)] [] (ej_sh, s'.2.2) res) ∧ ∀ e, x = Sum.inr e → K e) hb ⟨hl, hr⟩ (fun q hq => hq.1 q rfl) (fun q hq => h0 q (hq.2 _ rfl))) oj_FU (v1, v2, m) x hf hK
def f_X11_rankOf  (m : ej_M) : Option (Int32 × ej_M) :=
  f_X11_rankOf_L4 0 0 m
set_option maxHeartbeats 4000000 in
set_option maxRecDepth 100000 in
theorem b_X11_rankOf (e : Nat) (hd : 0 ≤ e)  (m : ej_M) {x : (Int32 × ej_M)} {res : Option Value × ej_H} {K : (Int32 × ej_M) → Prop} (hf : f_X11_rankOf  m = some x) (hK : K x) (h0 : ∀ q : (Int32 × ej_M), K q → res = (some (Value.int q.1), (ej_sh, q.2))) : ej_Z cX11_rankOf 5 (some .int) RX11 "rankOf" (e + 1) 0 [(0, .ref 41)] [] (ej_sh, m) res := by
  unfold f_X11_rankOf at hf
  refine z_iconst (pc := 0) dX11_rankOf_0 ki_0 ?_
  refine z_istore_n (pc := 1) (i := 1) (ls' := [(1, .int 0), (0, .ref 41)]) dX11_rankOf_1 rfl (Nat.le_of_ble_eq_true rfl) rfl ?_
  refine z_iconst (pc := 2) dX11_rankOf_2 ki_0 ?_
  refine z_istore_n (pc := 3) (i := 2) (ls' := [(2, .int 0), (1, .int 0), (0, .ref 41)]) dX11_rankOf_3 rfl (Nat.le_of_ble_eq_true rfl) rfl ?_
  exact z_pick [2, 1, 0] rfl (b_X11_rankOf_L4 e hd 0 0 m (K := K) hf hK  h0)
set_option maxHeartbeats 4000000 in
set_option maxRecDepth 100000 in
theorem c_X11_rankOf (d : Nat) (hd : 1 ≤ d)  (m : ej_M) {q : (Int32 × ej_M)} (hf : f_X11_rankOf  m = some q) : ej_Ct yX11_rankOf cX11_rankOf 5 (some .int) d [.ref 41] (ej_sh, m) ((some (Value.int q.1), (ej_sh, q.2)) : Option Value × ej_H) := by
  obtain ⟨e, rfl⟩ : ∃ e, d = e + 1 := ⟨d - 1, by omega⟩
  exact z_met (by decide +kernel) (Nat.le_of_ble_eq_true rfl) (b_X11_rankOf e (by omega)  m (K := fun z => ((some (Value.int q.1), (ej_sh, q.2)) : Option Value × ej_H) = (some (Value.int z.1), (ej_sh, z.2))) hf rfl (fun _ h => h))
