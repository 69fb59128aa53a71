def f_X2_hear (v1 : Int32) (m : ej_M) : Option (Int32 × ej_M) :=
  if v1 < 0 then
    some ((-1), m)
  else
    if v1 ≤ 255 then
      if (m.1 1 1) < 120 then
        (f_X10_lay 2 (m.1 1 1) v1 m).bind fun q1 =>
        (oj_pf q1.2 1 1 ((q1.2.1 1 1) + 1)).bind fun m2 =>
        some ((m2.1 1 1), m2)
      else
        some ((-3), m)
    else
      some ((-1), m)
set_option maxHeartbeats 4000000 in
set_option maxRecDepth 100000 in
theorem b_X2_hear (e : Nat) (hd : 0 ≤ e) (v1 : Int32) (m : ej_M) {x : (Int32 × ej_M)} {res : Option Value × ej_H} {K : (Int32 × ej_M) → Prop} (hf : f_X2_hear v1 m = some x) (hK : K x) (h0 : ∀ q : (Int32 × ej_M), K q → res = (some (Value.int q.1), (ej_sh, q.2))) : ej_Z cX2_hear 2 (some .int) RX2 "hear" (e + 1) 0 [(0, .ref 1), (1, .int v1)] [] (ej_sh, m) res := by
  unfold f_X2_hear at hf
  refine z_iload_n (pc := 0) (i := 1) (j := 1) dX2_hear_0 rfl rfl ?_
  refine z_if_lt (pc := 1) (tgt := 11) dX2_hear_1 (by decide) (fun hc => ?_) (fun hc => ?_)
  · rw [if_pos hc] at hf
    refine z_iconst (pc := 11) dX2_hear_11 ki_n1 ?_
    obtain rfl := Option.some.inj hf
    rw [h0 _ hK]
    exact z_iret dX2_hear_12 rfl rfl
  · rw [if_neg hc] at hf
    refine z_iload_n (pc := 4) (i := 1) (j := 1) dX2_hear_4 rfl rfl ?_
    refine z_sipush (pc := 5) dX2_hear_5 ks_255 ?_
    refine z_icmp_le (pc := 8) (tgt := 13) dX2_hear_8 (by decide) (fun hc => ?_) (fun hc => ?_)
    · rw [if_pos hc] at hf
      refine z_aload_n (pc := 13) (i := 0) (j := 0) dX2_hear_13 rfl rfl ?_
      refine z_ogetI (pc := 14) dX2_hear_14 lf_RX2_24 sh_1 rfl rfl ?_
      refine z_bipush (pc := 17) dX2_hear_17 kb_120 ?_
      refine z_icmp_lt (pc := 19) (tgt := 25) dX2_hear_19 (by decide) (fun hc => ?_) (fun hc => ?_)
      · rw [if_pos hc] at hf
        refine z_aload_n (pc := 25) (i := 0) (j := 0) dX2_hear_25 rfl rfl ?_
        refine z_ogetR (pc := 26) dX2_hear_26 lf_RX2_11 sh_1 rfl rfl rfl ?_
        refine z_aload_n (pc := 29) (i := 0) (j := 0) dX2_hear_29 rfl rfl ?_
        refine z_ogetI (pc := 30) dX2_hear_30 lf_RX2_24 sh_1 rfl rfl ?_
        refine z_iload_n (pc := 33) (i := 1) (j := 1) dX2_hear_33 rfl rfl ?_
        obtain ⟨q1, hq1, hf⟩ := Option.bind_eq_some_iff.mp hf
        refine z_oSv (pc := 34) (as := [.ref 2, .int (m.1 1 1), .int v1]) (rest := []) dX2_hear_34 lm_RX2_28 mf_X10_lay ms_X10_lay rfl rfl (Nat.le_of_ble_eq_true rfl) (c_X10_lay e (by omega) 2 (m.1 1 1) v1 m hq1) ?_
        refine z_aload_n (pc := 37) (i := 0) (j := 0) dX2_hear_37 rfl rfl ?_
        refine z_dup (pc := 38) dX2_hear_38 rfl ?_
        refine z_ogetI (pc := 39) dX2_hear_39 lf_RX2_24 sh_1 rfl rfl ?_
        refine z_iconst (pc := 42) dX2_hear_42 ki_1 ?_
        refine z_iadd (pc := 43) dX2_hear_43 ?_
        obtain ⟨m2, hm2, hf⟩ := Option.bind_eq_some_iff.mp hf
        refine z_oputI (pc := 44) dX2_hear_44 lf_RX2_24 sh_1 rfl hm2 ?_
        refine z_aload_n (pc := 47) (i := 0) (j := 0) dX2_hear_47 rfl rfl ?_
        refine z_ogetI (pc := 48) dX2_hear_48 lf_RX2_24 sh_1 rfl rfl ?_
        obtain rfl := Option.some.inj hf
        rw [h0 _ hK]
        exact z_iret dX2_hear_51 rfl rfl
      · rw [if_neg hc] at hf
        refine z_bipush (pc := 22) dX2_hear_22 kb_n3 ?_
        obtain rfl := Option.some.inj hf
        rw [h0 _ hK]
        exact z_iret dX2_hear_24 rfl rfl
    · rw [if_neg hc] at hf
      refine z_iconst (pc := 11) dX2_hear_11 ki_n1 ?_
      obtain rfl := Option.some.inj hf
      rw [h0 _ hK]
      exact z_iret dX2_hear_12 rfl rfl
set_option maxHeartbeats 4000000 in
set_option maxRecDepth 100000 in
theorem c_X2_hear (d : Nat) (hd : 1 ≤ d) (v1 : Int32) (m : ej_M) {q : (Int32 × ej_M)} (hf : f_X2_hear v1 m = some q) : ej_Ct yX2_hear cX2_hear 2 (some .int) d [.ref 1, .int v1] (ej_sh, m) ((some (Value.int q.1), (ej_sh, q.2)) : Option Value × ej_H) := by
  obtain ⟨e, rfl⟩ : ∃ e, d = e + 1 := ⟨d - 1, by omega⟩
  exact z_met (by decide +kernel) (Nat.le_of_ble_eq_true rfl) (b_X2_hear e (by omega) v1 m (K := fun z => ((some (Value.int q.1), (ej_sh, q.2)) : Option Value × ej_H) = (some (Value.int z.1), (ej_sh, z.2))) hf rfl (fun _ h => h))
def f_X10_feed (v1 : Int32) (m : ej_M) : Option (Int32 × ej_M) :=
  (f_X2_hear v1 m).bind fun q1 =>
  some (q1.1, q1.2)
set_option maxHeartbeats 4000000 in
set_option maxRecDepth 100000 in
theorem b_X10_feed (e : Nat) (hd : 1 ≤ e) (v1 : Int32) (m : ej_M) {x : (Int32 × ej_M)} {res : Option Value × ej_H} {K : (Int32 × ej_M) → Prop} (hf : f_X10_feed v1 m = some x) (hK : K x) (h0 : ∀ q : (Int32 × ej_M), K q → res = (some (Value.int q.1), (ej_sh, q.2))) : ej_Z cX10_feed 2 (some .int) RX10 "feed" (e + 1) 0 [(0, .ref 0), (1, .int v1)] [] (ej_sh, m) res := by
  unfold f_X10_feed at hf
  refine z_aload_n (pc := 0) (i := 0) (j := 0) dX10_feed_0 rfl rfl ?_
  refine z_ogetR (pc := 1) dX10_feed_1 lf_RX10_10 sh_0 rfl rfl rfl ?_
  refine z_iload_n (pc := 4) (i := 1) (j := 1) dX10_feed_4 rfl rfl ?_
  obtain ⟨q1, hq1, hf⟩ := Option.bind_eq_some_iff.mp hf
  refine z_oVi (pc := 5) (as := [.int v1]) (rest := []) dX10_feed_5 lm_RX10_149 mf_X2_hear mi_X2_hear mv_X2_hear rc_1 rfl rfl (Nat.le_of_ble_eq_true rfl) (c_X2_hear e (by omega) v1 m hq1) ?_
  obtain rfl := Option.some.inj hf
  rw [h0 _ hK]
  exact z_iret dX10_feed_8 rfl rfl
set_option maxHeartbeats 4000000 in
set_option maxRecDepth 100000 in
theorem c_X10_feed (d : Nat) (hd : 2 ≤ d) (v1 : Int32) (m : ej_M) {q : (Int32 × ej_M)} (hf : f_X10_feed v1 m = some q) : ej_Ct yX10_feed cX10_feed 2 (some .int) d [.ref 0, .int v1] (ej_sh, m) ((some (Value.int q.1), (ej_sh, q.2)) : Option Value × ej_H) := by
  obtain ⟨e, rfl⟩ : ∃ e, d = e + 1 := ⟨d - 1, by omega⟩
  exact z_met (by decide +kernel) (Nat.le_of_ble_eq_true rfl) (b_X10_feed e (by omega) v1 m (K := fun z => ((some (Value.int q.1), (ej_sh, q.2)) : Option Value × ej_H) = (some (Value.int z.1), (ej_sh, z.2))) hf rfl (fun _ h => h))
def f_X11_feed (v1 : Int32) (m : ej_M) : Option (Int32 × ej_M) :=
  (f_X11_in v1 0 255 m).bind fun q1 =>
  if q1.1 = 0 then
    some ((-1), q1.2)
  else
    if (q1.2.1 41 15) = 120 then
      some ((-3), q1.2)
    else
      (oj_st 1 q1.2 48 (q1.2.1 41 15) (vp_nar .byte ((Int32.toInt8 v1).toInt32))).bind fun m2 =>
      (oj_pf m2 41 15 ((m2.1 41 15) + 1)).bind fun m3 =>
      some ((m3.1 41 15), m3)
set_option maxHeartbeats 4000000 in
set_option maxRecDepth 100000 in
theorem b_X11_feed (e : Nat) (hd : 0 ≤ e) (v1 : Int32) (m : ej_M) {x : (Int32 × ej_M)} {res : Option Value × ej_H} {K : (Int32 × ej_M) → Prop} (hf : f_X11_feed v1 m = some x) (hK : K x) (h0 : ∀ q : (Int32 × ej_M), K q → res = (some (Value.int q.1), (ej_sh, q.2))) : ej_Z cX11_feed 2 (some .int) RX11 "feed" (e + 1) 0 [(0, .ref 41), (1, .int v1)] [] (ej_sh, m) res := by
  unfold f_X11_feed at hf
  refine z_iload_n (pc := 0) (i := 1) (j := 1) dX11_feed_0 rfl rfl ?_
  refine z_iconst (pc := 1) dX11_feed_1 ki_0 ?_
  refine z_sipush (pc := 2) dX11_feed_2 ks_255 ?_
  obtain ⟨q1, hq1, hf⟩ := Option.bind_eq_some_iff.mp hf
  refine z_oSi (pc := 5) (as := [.int v1, .int 0, .int 255]) (rest := []) dX11_feed_5 lm_RX11_104 mf_X11_in ms_X11_in rfl rfl (Nat.le_of_ble_eq_true rfl) (c_X11_in e (by omega) v1 0 255 m hq1) ?_
  refine z_if_ne (pc := 8) (tgt := 13) dX11_feed_8 (by decide) (fun hc => ?_) (fun hc => ?_)
  · rw [if_neg hc] at hf
    refine z_aload_n (pc := 13) (i := 0) (j := 0) dX11_feed_13 rfl rfl ?_
    refine z_ogetI (pc := 14) dX11_feed_14 lf_RX11_143 sh_41 rfl rfl ?_
    refine z_bipush (pc := 17) dX11_feed_17 kb_120 ?_
    refine z_icmp_ne (pc := 19) (tgt := 25) dX11_feed_19 (by decide) (fun hc => ?_) (fun hc => ?_)
    · rw [if_neg hc] at hf
      refine z_aload_n (pc := 25) (i := 0) (j := 0) dX11_feed_25 rfl rfl ?_
      refine z_ogetR (pc := 26) dX11_feed_26 lf_RX11_28 sh_41 rfl rfl rfl ?_
      refine z_aload_n (pc := 29) (i := 0) (j := 0) dX11_feed_29 rfl rfl ?_
      refine z_ogetI (pc := 30) dX11_feed_30 lf_RX11_143 sh_41 rfl rfl ?_
      refine z_iload_n (pc := 33) (i := 1) (j := 1) dX11_feed_33 rfl rfl ?_
      refine z_i2b (pc := 34) dX11_feed_34 ?_
      obtain ⟨m2, hm2, hf⟩ := Option.bind_eq_some_iff.mp hf
      refine z_obast (pc := 35) dX11_feed_35 hm2 ?_
      refine z_aload_n (pc := 36) (i := 0) (j := 0) dX11_feed_36 rfl rfl ?_
      refine z_dup (pc := 37) dX11_feed_37 rfl ?_
      refine z_ogetI (pc := 38) dX11_feed_38 lf_RX11_143 sh_41 rfl rfl ?_
      refine z_iconst (pc := 41) dX11_feed_41 ki_1 ?_
      refine z_iadd (pc := 42) dX11_feed_42 ?_
      obtain ⟨m3, hm3, hf⟩ := Option.bind_eq_some_iff.mp hf
      refine z_oputI (pc := 43) dX11_feed_43 lf_RX11_143 sh_41 rfl hm3 ?_
      refine z_aload_n (pc := 46) (i := 0) (j := 0) dX11_feed_46 rfl rfl ?_
      refine z_ogetI (pc := 47) dX11_feed_47 lf_RX11_143 sh_41 rfl rfl ?_
      obtain rfl := Option.some.inj hf
      rw [h0 _ hK]
      exact z_iret dX11_feed_50 rfl rfl
    · rw [if_pos hc] at hf
      refine z_bipush (pc := 22) dX11_feed_22 kb_n3 ?_
      obtain rfl := Option.some.inj hf
      rw [h0 _ hK]
      exact z_iret dX11_feed_24 rfl rfl
  · rw [if_pos hc] at hf
    refine z_iconst (pc := 11) dX11_feed_11 ki_n1 ?_
    obtain rfl := Option.some.inj hf
    rw [h0 _ hK]
    exact z_iret dX11_feed_12 rfl rfl
set_option maxHeartbeats 4000000 in
set_option maxRecDepth 100000 in
theorem c_X11_feed (d : Nat) (hd : 1 ≤ d) (v1 : Int32) (m : ej_M) {q : (Int32 × ej_M)} (hf : f_X11_feed v1 m = some q) : ej_Ct yX11_feed cX11_feed 2 (some .int) d [.ref 41, .int v1] (ej_sh, m) ((some (Value.int q.1), (ej_sh, q.2)) : Option Value × ej_H) := by
  obtain ⟨e, rfl⟩ : ∃ e, d = e + 1 := ⟨d - 1, by omega⟩
  exact z_met (by decide +kernel) (Nat.le_of_ble_eq_true rfl) (b_X11_feed e (by omega) v1 m (K := fun z => ((some (Value.int q.1), (ej_sh, q.2)) : Option Value × ej_H) = (some (Value.int z.1), (ej_sh, z.2))) hf rfl (fun _ h => h))
def f_X10_copy_L2b (v0 : Nat) (v1 : Nat) (v2 : Int32) (v3 : Int32) (m : ej_M) : Option ((Int32 × ej_M) ⊕ (Unit × ej_M)) :=
  if v2 ≤ v3 then
    some (Sum.inr ((), m))
  else
    (f_X10_at v0 v3 m).bind fun q1 =>
    (f_X10_lay v1 v3 q1.1 q1.2).bind fun q2 =>
    some (Sum.inl ((v3 + 1), q2.2))
set_option maxHeartbeats 4000000 in
set_option maxRecDepth 100000 in
theorem b_X10_copy_L2b (e : Nat) (hd : 0 ≤ e) (v0 : Nat) (v1 : Nat) (v2 : Int32) (v3 : Int32) (m : ej_M) {x : ((Int32 × ej_M) ⊕ (Unit × ej_M))} {res : Option Value × ej_H} {K : ((Int32 × ej_M) ⊕ (Unit × ej_M)) → Prop} (hf : f_X10_copy_L2b v0 v1 v2 v3 m = some x) (hK : K x) (h1 : ∀ q : (Int32 × ej_M), K (Sum.inl q) → ej_Z cX10_copy 4 none RX10 "copy" (e + 1) 2 [(0, .ref v0), (1, .ref v1), (2, .int v2), (3, .int q.1)] [] (ej_sh, q.2) res) (h0 : ∀ q : (Unit × ej_M), K (Sum.inr q) → res = (none, (ej_sh, q.2))) : ej_Z cX10_copy 4 none RX10 "copy" (e + 1) 2 [(0, .ref v0), (1, .ref v1), (2, .int v2), (3, .int v3)] [] (ej_sh, m) res := by
  unfold f_X10_copy_L2b at hf
  refine z_iload_n (pc := 2) (i := 3) (j := 3) dX10_copy_2 rfl rfl ?_
  refine z_iload_n (pc := 3) (i := 2) (j := 2) dX10_copy_3 rfl rfl ?_
  refine z_icmp_ge (pc := 4) (tgt := 23) dX10_copy_4 (by decide) (fun hc => ?_) (fun hc => ?_)
  · rw [if_pos hc] at hf
    obtain rfl := Option.some.inj hf
    rw [h0 _ hK]
    exact z_ret dX10_copy_23 rfl
  · rw [if_neg hc] at hf
    refine z_aload_n (pc := 7) (i := 1) (j := 1) dX10_copy_7 rfl rfl ?_
    refine z_iload_n (pc := 8) (i := 3) (j := 3) dX10_copy_8 rfl rfl ?_
    refine z_aload_n (pc := 9) (i := 0) (j := 0) dX10_copy_9 rfl rfl ?_
    refine z_iload_n (pc := 10) (i := 3) (j := 3) dX10_copy_10 rfl rfl ?_
    obtain ⟨q1, hq1, hf⟩ := Option.bind_eq_some_iff.mp hf
    refine z_oSi (pc := 11) (as := [.ref v0, .int v3]) (rest := [.int v3, .ref v1]) dX10_copy_11 lm_RX10_125 mf_X10_at ms_X10_at rfl rfl (Nat.le_of_ble_eq_true rfl) (c_X10_at e (by omega) v0 v3 m hq1) ?_
    obtain ⟨q2, hq2, hf⟩ := Option.bind_eq_some_iff.mp hf
    refine z_oSv (pc := 14) (as := [.ref v1, .int v3, .int q1.1]) (rest := []) dX10_copy_14 lm_RX10_316 mf_X10_lay ms_X10_lay rfl rfl (Nat.le_of_ble_eq_true rfl) (c_X10_lay e (by omega) v1 v3 q1.1 q1.2 hq2) ?_
    refine z_iinc (pc := 17) (j := 3) (ls' := [(3, .int (v3 + 1)), (0, .ref v0), (1, .ref v1), (2, .int v2)]) dX10_copy_17 rfl ki_1 (Nat.le_of_ble_eq_true rfl) rfl ?_
    refine z_goto (pc := 20) (tgt := 2) dX10_copy_20 (by decide) ?_
    obtain rfl := Option.some.inj hf
    exact z_pick (ls' := [(0, .ref v0), (1, .ref v1), (2, .int v2), (3, .int (v3 + 1))]) [1, 2, 3, 0] rfl (h1 ((v3 + 1), q2.2) hK)
def f_X10_copy_L2 (v0 : Nat) (v1 : Nat) (v2 : Int32) (v3 : Int32) (m : ej_M) : Option (Unit × ej_M) := oj_loop (fun q : (Int32 × ej_M) => f_X10_copy_L2b v0 v1 v2 q.1 q.2) oj_FU (v3, m)
set_option maxHeartbeats 4000000 in
set_option maxRecDepth 100000 in
theorem b_X10_copy_L2 (e : Nat) (hd : 0 ≤ e) (v0 : Nat) (v1 : Nat) (v2 : Int32) (v3 : Int32) (m : ej_M) {x : (Unit × ej_M)} {res : Option Value × ej_H} {K : (Unit × ej_M) → Prop} (hf : f_X10_copy_L2 v0 v1 v2 v3 m = some x) (hK : K x) (h0 : ∀ q : (Unit × ej_M), K q → res = (none, (ej_sh, q.2))) : ej_Z cX10_copy 4 none RX10 "copy" (e + 1) 2 [(0, .ref v0), (1, .ref v1), (2, .int v2), (3, .int v3)] [] (ej_sh, m) res :=
  oj_loop_Z (body := fun q : (Int32 × ej_M) => f_X10_copy_L2b v0 v1 v2 q.1 q.2) (P := fun q : (Int32 × ej_M) => ej_Z cX10_copy 4 none RX10 "copy" (e + 1) 2 [(0, .ref v0), (1, .ref v1), (2, .int v2), (3, .int q.1)] [] (ej_sh, q.2) res) (K := K) (fun s x hb hl hr => b_X10_copy_L2b e hd v0 v1 v2  s.1 s.2 (K := fun x => (∀ s' : (Int32 × ej_M), x = Sum.inl s' → ej_Z cX10_copy 4 none RX10 "copy" (e + 1) 2 [(0, .ref v0), (1, .ref v1), (2, .int v2), (3, .int s'.1)] [] (ej_sh, s'.2) res) ∧ ∀ e, x = Sum.inr e → K e) hb ⟨hl, hr⟩ (fun q hq => hq.1 q rfl) (fun q hq => h0 q (hq.2 _ rfl))) oj_FU (v3, m) x hf hK
def f_X10_copy (v0 : Nat) (v1 : Nat) (v2 : Int32) (m : ej_M) : Option (Unit × ej_M) :=
  f_X10_copy_L2 v0 v1 v2 0 m
set_option maxHeartbeats 4000000 in
set_option maxRecDepth 100000 in
theorem b_X10_copy (e : Nat) (hd : 0 ≤ e) (v0 : Nat) (v1 : Nat) (v2 : Int32) (m : ej_M) {x : (Unit × ej_M)} {res : Option Value × ej_H} {K : (Unit × ej_M) → Prop} (hf : f_X10_copy v0 v1 v2 m = some x) (hK : K x) (h0 : ∀ q : (Unit × ej_M), K q → res = (none, (ej_sh, q.2))) : ej_Z cX10_copy 4 none RX10 "copy" (e + 1) 0 [(0, .ref v0), (1, .ref v1), (2, .int v2)] [] (ej_sh, m) res := by
  unfold f_X10_copy at hf
  refine z_iconst (pc := 0) dX10_copy_0 ki_0 ?_
  refine z_istore_n (pc := 1) (i := 3) (ls' := [(3, .int 0), (0, .ref v0), (1, .ref v1), (2, .int v2)]) dX10_copy_1 rfl (Nat.le_of_ble_eq_true rfl) rfl ?_
  exact z_pick [1, 2, 3, 0] rfl (b_X10_copy_L2 e hd v0 v1 v2 0 m (K := K) hf hK  h0)
set_option maxHeartbeats 4000000 in
set_option maxRecDepth 100000 in
theorem c_X10_copy (d : Nat) (hd : 1 ≤ d) (v0 : Nat) (v1 : Nat) (v2 : Int32) (m : ej_M) {q : (Unit × ej_M)} (hf : f_X10_copy v0 v1 v2 m = some q) : ej_Ct yX10_copy cX10_copy 4 none d [.ref v0, .ref v1, .int v2] (ej_sh, m) ((none, (ej_sh, q.2)) : Option Value × ej_H) := by
  obtain ⟨e, rfl⟩ : ∃ e, d = e + 1 := ⟨d - 1, by omega⟩
  exact z_met (by decide +kernel) (Nat.le_of_ble_eq_true rfl) (b_X10_copy e (by omega) v0 v1 v2 m (K := fun z => ((none, (ej_sh, q.2)) : Option Value × ej_H) = (none, (ej_sh, z.2))) hf rfl (fun _ h => h))
def f_J0_isLatin1_aae02 (v0 : Nat) (m : ej_M) : Option (Int32 × ej_M) :=
  if (1 : Int32) = 0 then
    some (0, m)
  else
    (oj_sc v0).bind fun w1 =>
    if w1 = 0 then
      some (1, m)
    else
      some (0, m)
set_option maxHeartbeats 4000000 in
set_option maxRecDepth 100000 in
theorem b_J0_isLatin1_aae02 (d : Nat) (v0 : Nat) (m : ej_M) {x : (Int32 × ej_M)} {res : Option Value × ej_H} {K : (Int32 × ej_M) → Prop} (hf : f_J0_isLatin1_aae02 v0 m = some x) (hK : K x) (h0 : ∀ q : (Int32 × ej_M), K q → res = (some (Value.int q.1), (ej_sh, q.2))) : ej_Z cJ0_isLatin1_aae02 1 (some .boolean) RJ0 "isLatin1" d 0 [(0, .ref v0)] [] (ej_sh, m) res := by
  unfold f_J0_isLatin1_aae02 at hf
  refine z_getsC (pc := 0) dJ0_isLatin1_aae02_0 ls_RJ0_38 ?_
  refine z_if_eq (pc := 3) (tgt := 17) dJ0_isLatin1_aae02_3 (by decide) (fun hc => ?_) (fun hc => ?_)
  · rw [if_pos hc] at hf
    refine z_iconst (pc := 17) dJ0_isLatin1_aae02_17 ki_0 ?_
    obtain rfl := Option.some.inj hf
    rw [h0 _ hK]
    exact z_iret dJ0_isLatin1_aae02_18 rfl rfl
  · rw [if_neg hc] at hf
    refine z_aload_n (pc := 6) (i := 0) (j := 0) dJ0_isLatin1_aae02_6 rfl rfl ?_
    obtain ⟨w1, hw1, hf⟩ := Option.bind_eq_some_iff.mp hf
    refine z_ogetSC (pc := 7) dJ0_isLatin1_aae02_7 ls_RJ0_15 hw1 ?_
    refine z_if_ne (pc := 10) (tgt := 17) dJ0_isLatin1_aae02_10 (by decide) (fun hc => ?_) (fun hc => ?_)
    · rw [if_neg hc] at hf
      refine z_iconst (pc := 17) dJ0_isLatin1_aae02_17 ki_0 ?_
      obtain rfl := Option.some.inj hf
      rw [h0 _ hK]
      exact z_iret dJ0_isLatin1_aae02_18 rfl rfl
    · rw [if_pos hc] at hf
      refine z_iconst (pc := 13) dJ0_isLatin1_aae02_13 ki_1 ?_
      refine z_goto (pc := 14) (tgt := 18) dJ0_isLatin1_aae02_14 (by decide) ?_
      obtain rfl := Option.some.inj hf
      rw [h0 _ hK]
      exact z_iret dJ0_isLatin1_aae02_18 rfl rfl
set_option maxHeartbeats 4000000 in
set_option maxRecDepth 100000 in
theorem c_J0_isLatin1_aae02 (d : Nat) (hd : 0 ≤ d) (v0 : Nat) (m : ej_M) {q : (Int32 × ej_M)} (hf : f_J0_isLatin1_aae02 v0 m = some q) : ej_Ct yJ0_isLatin1_aae02 cJ0_isLatin1_aae02 1 (some .boolean) d [.ref v0] (ej_sh, m) ((some (Value.int q.1), (ej_sh, q.2)) : Option Value × ej_H) := by
  exact z_met (by decide +kernel) (Nat.le_of_ble_eq_true rfl) (b_J0_isLatin1_aae02 d v0 m (K := fun z => ((some (Value.int q.1), (ej_sh, q.2)) : Option Value × ej_H) = (some (Value.int z.1), (ej_sh, z.2))) hf rfl (fun _ h => h))
def f_J1_canEncode_9a6ad (v0 : Int32) (m : ej_M) : Option (Int32 × ej_M) :=
  if v0 < 0 then
    some (0, m)
  else
    if 255 < v0 then
      some (0, m)
    else
      some (1, m)
set_option maxHeartbeats 4000000 in
set_option maxRecDepth 100000 in
theorem b_J1_canEncode_9a6ad (d : Nat) (v0 : Int32) (m : ej_M) {x : (Int32 × ej_M)} {res : Option Value × ej_H} {K : (Int32 × ej_M) → Prop} (hf : f_J1_canEncode_9a6ad v0 m = some x) (hK : K x) (h0 : ∀ q : (Int32 × ej_M), K q → res = (some (Value.int q.1), (ej_sh, q.2))) : ej_Z cJ1_canEncode_9a6ad 1 (some .boolean) RJ1 "canEncode" d 0 [(0, .int v0)] [] (ej_sh, m) res := by
  unfold f_J1_canEncode_9a6ad at hf
  refine z_iload_n (pc := 0) (i := 0) (j := 0) dJ1_canEncode_9a6ad_0 rfl rfl ?_
  refine z_if_lt (pc := 1) (tgt := 15) dJ1_canEncode_9a6ad_1 (by decide) (fun hc => ?_) (fun hc => ?_)
  · rw [if_pos hc] at hf
    refine z_iconst (pc := 15) dJ1_canEncode_9a6ad_15 ki_0 ?_
    obtain rfl := Option.some.inj hf
    rw [h0 _ hK]
    exact z_iret dJ1_canEncode_9a6ad_16 rfl rfl
  · rw [if_neg hc] at hf
    refine z_iload_n (pc := 4) (i := 0) (j := 0) dJ1_canEncode_9a6ad_4 rfl rfl ?_
    refine z_sipush (pc := 5) dJ1_canEncode_9a6ad_5 ks_255 ?_
    refine z_icmp_gt (pc := 8) (tgt := 15) dJ1_canEncode_9a6ad_8 (by decide) (fun hc => ?_) (fun hc => ?_)
    · rw [if_pos hc] at hf
      refine z_iconst (pc := 15) dJ1_canEncode_9a6ad_15 ki_0 ?_
      obtain rfl := Option.some.inj hf
      rw [h0 _ hK]
      exact z_iret dJ1_canEncode_9a6ad_16 rfl rfl
    · rw [if_neg hc] at hf
      refine z_iconst (pc := 11) dJ1_canEncode_9a6ad_11 ki_1 ?_
      refine z_goto (pc := 12) (tgt := 16) dJ1_canEncode_9a6ad_12 (by decide) ?_
      obtain rfl := Option.some.inj hf
      rw [h0 _ hK]
      exact z_iret dJ1_canEncode_9a6ad_16 rfl rfl
set_option maxHeartbeats 4000000 in
set_option maxRecDepth 100000 in
theorem c_J1_canEncode_9a6ad (d : Nat) (hd : 0 ≤ d) (v0 : Int32) (m : ej_M) {q : (Int32 × ej_M)} (hf : f_J1_canEncode_9a6ad v0 m = some q) : ej_Ct yJ1_canEncode_9a6ad cJ1_canEncode_9a6ad 1 (some .boolean) d [.int v0] (ej_sh, m) ((some (Value.int q.1), (ej_sh, q.2)) : Option Value × ej_H) := by
  exact z_met (by decide +kernel) (Nat.le_of_ble_eq_true rfl) (b_J1_canEncode_9a6ad d v0 m (K := fun z => ((some (Value.int q.1), (ej_sh, q.2)) : Option Value × ej_H) = (some (Value.int z.1), (ej_sh, z.2))) hf rfl (fun _ h => h))
def f_J1_indexOfChar_4cfef_L7b (v0 : Nat) (v3 : Int32) (v4 : Int32) (v5 : Int32) (m : ej_M) : Option ((Int32 × ej_M) ⊕ (Int32 × ej_M)) :=
  if v3 ≤ v5 then
    some (Sum.inr ((-1), m))
  else
    (oj_ld 1 m v0 v5).bind fun w1 =>
    if w1 = v4 then
      some (Sum.inr (v5, m))
    else
      some (Sum.inl ((v5 + 1), m))
set_option maxHeartbeats 4000000 in
set_option maxRecDepth 100000 in
theorem b_J1_indexOfChar_4cfef_L7b (d : Nat) (v0 : Nat) (v3 : Int32) (v4 : Int32) (v5 : Int32) (m : ej_M) {x : ((Int32 × ej_M) ⊕ (Int32 × ej_M))} {res : Option Value × ej_H} {K : ((Int32 × ej_M) ⊕ (Int32 × ej_M)) → Prop} (hf : f_J1_indexOfChar_4cfef_L7b v0 v3 v4 v5 m = some x) (hK : K x) (h1 : ∀ q : (Int32 × ej_M), K (Sum.inl q) → ej_Z cJ1_indexOfChar_4cfef 6 (some .int) RJ1 "indexOfChar" d 7 [(0, .ref v0), (3, .int v3), (4, .int v4), (5, .int q.1)] [] (ej_sh, q.2) res) (h0 : ∀ q : (Int32 × ej_M), K (Sum.inr q) → res = (some (Value.int q.1), (ej_sh, q.2))) : ej_Z cJ1_indexOfChar_4cfef 6 (some .int) RJ1 "indexOfChar" d 7 [(0, .ref v0), (3, .int v3), (4, .int v4), (5, .int v5)] [] (ej_sh, m) res := by
  unfold f_J1_indexOfChar_4cfef_L7b at hf
  refine z_iload (pc := 7) (i := 5) (j := 3) dJ1_indexOfChar_4cfef_7 rfl ?_
  refine z_iload_n (pc := 9) (i := 3) (j := 1) dJ1_indexOfChar_4cfef_9 rfl rfl ?_
  refine z_icmp_ge (pc := 10) (tgt := 31) dJ1_indexOfChar_4cfef_10 (by decide) (fun hc => ?_) (fun hc => ?_)
  · rw [if_pos hc] at hf
    refine z_iconst (pc := 31) dJ1_indexOfChar_4cfef_31 ki_n1 ?_
    obtain rfl := Option.some.inj hf
    rw [h0 _ hK]
    exact z_iret dJ1_indexOfChar_4cfef_32 rfl rfl
  · rw [if_neg hc] at hf
    refine z_aload_n (pc := 13) (i := 0) (j := 0) dJ1_indexOfChar_4cfef_13 rfl rfl ?_
    refine z_iload (pc := 14) (i := 5) (j := 3) dJ1_indexOfChar_4cfef_14 rfl ?_
    obtain ⟨w1, hw1, hf⟩ := Option.bind_eq_some_iff.mp hf
    refine z_obald (pc := 16) dJ1_indexOfChar_4cfef_16 hw1 ?_
    refine z_iload (pc := 17) (i := 4) (j := 2) dJ1_indexOfChar_4cfef_17 rfl ?_
    refine z_icmp_ne (pc := 19) (tgt := 25) dJ1_indexOfChar_4cfef_19 (by decide) (fun hc => ?_) (fun hc => ?_)
    · rw [if_neg hc] at hf
      refine z_iinc (pc := 25) (j := 3) (ls' := [(5, .int (v5 + 1)), (0, .ref v0), (3, .int v3), (4, .int v4)]) dJ1_indexOfChar_4cfef_25 rfl ki_1 (Nat.le_of_ble_eq_true rfl) rfl ?_
      refine z_goto (pc := 28) (tgt := 7) dJ1_indexOfChar_4cfef_28 (by decide) ?_
      obtain rfl := Option.some.inj hf
      exact z_pick (ls' := [(0, .ref v0), (3, .int v3), (4, .int v4), (5, .int (v5 + 1))]) [1, 2, 3, 0] rfl (h1 ((v5 + 1), m) hK)
    · rw [if_pos hc] at hf
      refine z_iload (pc := 22) (i := 5) (j := 3) dJ1_indexOfChar_4cfef_22 rfl ?_
      obtain rfl := Option.some.inj hf
      rw [h0 _ hK]
      exact z_iret dJ1_indexOfChar_4cfef_24 rfl rfl
def f_J1_indexOfChar_4cfef_L7 (v0 : Nat) (v3 : Int32) (v4 : Int32) (v5 : Int32) (m : ej_M) : Option (Int32 × ej_M) := oj_loop (fun q : (Int32 × ej_M) => f_J1_indexOfChar_4cfef_L7b v0 v3 v4 q.1 q.2) oj_FU (v5, m)
set_option maxHeartbeats 4000000 in
set_option maxRecDepth 100000 in
theorem b_J1_indexOfChar_4cfef_L7 (d : Nat) (v0 : Nat) (v3 : Int32) (v4 : Int32) (v5 : Int32) (m : ej_M) {x : (Int32 × ej_M)} {res : Option Value × ej_H} {K : (Int32 × ej_M) → Prop} (hf : f_J1_indexOfChar_4cfef_L7 v0 v3 v4 v5 m = some x) (hK : K x) (h0 : ∀ q : (Int32 × ej_M), K q → res = (some (Value.int q.1), (ej_sh, q.2))) : ej_Z cJ1_indexOfChar_4cfef 6 (some .int) RJ1 "indexOfChar" d 7 [(0, .ref v0), (3, .int v3), (4, .int v4), (5, .int v5)] [] (ej_sh, m) res :=
  oj_loop_Z (body := fun q : (Int32 × ej_M) => f_J1_indexOfChar_4cfef_L7b v0 v3 v4 q.1 q.2) (P := fun q : (Int32 × ej_M) => ej_Z cJ1_indexOfChar_4cfef 6 (some .int) RJ1 "indexOfChar" d 7 [(0, .ref v0), (3, .int v3), (4, .int v4), (5, .int q.1)] [] (ej_sh, q.2) res) (K := K) (fun s x hb hl hr => b_J1_indexOfChar_4cfef_L7b d v0 v3 v4  s.1 s.2 (K := fun x => (∀ s' : (Int32 × ej_M), x = Sum.inl s' → ej_Z cJ1_indexOfChar_4cfef 6 (some .int) RJ1 "indexOfChar" d 7 [(0, .ref v0), (3, .int v3), (4, .int v4), (5, .int s'.1)] [] (ej_sh, s'.2) res) ∧ ∀ e, x = Sum.inr e → K e) hb ⟨hl, hr⟩ (fun q hq => hq.1 q rfl) (fun q hq => h0 q (hq.2 _ rfl))) oj_FU (v5, m) x hf hK
def f_J1_indexOfChar_4cfef (v0 : Nat) (v1 : Int32) (v2 : Int32) (v3 : Int32) (m : ej_M) : Option (Int32 × ej_M) :=
  f_J1_indexOfChar_4cfef_L7 v0 v3 ((Int32.toInt8 v1).toInt32) v2 m
set_option maxHeartbeats 4000000 in
set_option maxRecDepth 100000 in
theorem b_J1_indexOfChar_4cfef (d : Nat) (v0 : Nat) (v1 : Int32) (v2 : Int32) (v3 : Int32) (m : ej_M) {x : (Int32 × ej_M)} {res : Option Value × ej_H} {K : (Int32 × ej_M) → Prop} (hf : f_J1_indexOfChar_4cfef v0 v1 v2 v3 m = some x) (hK : K x) (h0 : ∀ q : (Int32 × ej_M), K q → res = (some (Value.int q.1), (ej_sh, q.2))) : ej_Z cJ1_indexOfChar_4cfef 6 (some .int) RJ1 "indexOfChar" d 0 [(0, .ref v0), (1, .int v1), (2, .int v2), (3, .int v3)] [] (ej_sh, m) res := by
  unfold f_J1_indexOfChar_4cfef at hf
  refine z_iload_n (pc := 0) (i := 1) (j := 1) dJ1_indexOfChar_4cfef_0 rfl rfl ?_
  refine z_i2b (pc := 1) dJ1_indexOfChar_4cfef_1 ?_
  refine z_istore (pc := 2) (i := 4) (ls' := [(4, .int ((Int32.toInt8 v1).toInt32)), (0, .ref v0), (1, .int v1), (2, .int v2), (3, .int v3)]) dJ1_indexOfChar_4cfef_2 (Nat.le_of_ble_eq_true rfl) rfl ?_
  refine z_iload_n (pc := 4) (i := 2) (j := 3) dJ1_indexOfChar_4cfef_4 rfl rfl ?_
  refine z_istore (pc := 5) (i := 5) (ls' := [(5, .int v2), (4, .int ((Int32.toInt8 v1).toInt32)), (0, .ref v0), (1, .int v1), (2, .int v2), (3, .int v3)]) dJ1_indexOfChar_4cfef_5 (Nat.le_of_ble_eq_true rfl) rfl ?_
  exact z_pick [2, 5, 1, 0] rfl (b_J1_indexOfChar_4cfef_L7 d v0 v3 ((Int32.toInt8 v1).toInt32) v2 m (K := K) hf hK  h0)
set_option maxHeartbeats 4000000 in
set_option maxRecDepth 100000 in
theorem c_J1_indexOfChar_4cfef (d : Nat) (hd : 0 ≤ d) (v0 : Nat) (v1 : Int32) (v2 : Int32) (v3 : Int32) (m : ej_M) {q : (Int32 × ej_M)} (hf : f_J1_indexOfChar_4cfef v0 v1 v2 v3 m = some q) : ej_Ct yJ1_indexOfChar_4cfef cJ1_indexOfChar_4cfef 6 (some .int) d [.ref v0, .int v1, .int v2, .int v3] (ej_sh, m) ((some (Value.int q.1), (ej_sh, q.2)) : Option Value × ej_H) := by
  exact z_met (by decide +kernel) (Nat.le_of_ble_eq_true rfl) (b_J1_indexOfChar_4cfef d v0 v1 v2 v3 m (K := fun z => ((some (Value.int q.1), (ej_sh, q.2)) : Option Value × ej_H) = (some (Value.int z.1), (ej_sh, z.2))) hf rfl (fun _ h => h))
def f_J1_indexOf_4cfef (v0 : Nat) (v1 : Int32) (v2 : Int32) (v3 : Int32) (m : ej_M) : Option (Int32 × ej_M) :=
  (f_J1_canEncode_9a6ad v1 m).bind fun q1 =>
  if q1.1 = 0 then
    some ((-1), q1.2)
  else
    (oj_ln q1.2 v0).bind fun w2 =>
    if (if v2 < 0 then 0 else v2) < (if w2 < v3 then w2 else v3) then
      (f_J1_indexOfChar_4cfef v0 v1 (if v2 < 0 then 0 else v2) (if w2 < v3 then w2 else v3) q1.2).bind fun q3 =>
      some (q3.1, q3.2)
    else
      some ((-1), q1.2)
set_option maxHeartbeats 4000000 in
set_option maxRecDepth 100000 in
theorem b_J1_indexOf_4cfef (e : Nat) (hd : 0 ≤ e) (v0 : Nat) (v1 : Int32) (v2 : Int32) (v3 : Int32) (m : ej_M) {x : (Int32 × ej_M)} {res : Option Value × ej_H} {K : (Int32 × ej_M) → Prop} (hf : f_J1_indexOf_4cfef v0 v1 v2 v3 m = some x) (hK : K x) (h0 : ∀ q : (Int32 × ej_M), K q → res = (some (Value.int q.1), (ej_sh, q.2))) : ej_Z cJ1_indexOf_4cfef 4 (some .int) RJ1 "indexOf" (e + 1) 0 [(0, .ref v0), (1, .int v1), (2, .int v2), (3, .int v3)] [] (ej_sh, m) res := by
  unfold f_J1_indexOf_4cfef at hf
  refine z_iload_n (pc := 0) (i := 1) (j := 1) dJ1_indexOf_4cfef_0 rfl rfl ?_
  obtain ⟨q1, hq1, hf⟩ := Option.bind_eq_some_iff.mp hf
  refine z_oSi (pc := 1) (as := [.int v1]) (rest := []) dJ1_indexOf_4cfef_1 lm_RJ1_88 mf_J1_canEncode_9a6ad ms_J1_canEncode_9a6ad rfl rfl (Nat.le_of_ble_eq_true rfl) (c_J1_canEncode_9a6ad e (by omega) v1 m hq1) ?_
  refine z_if_ne (pc := 4) (tgt := 9) dJ1_indexOf_4cfef_4 (by decide) (fun hc => ?_) (fun hc => ?_)
  · rw [if_neg hc] at hf
    refine z_iload_n (pc := 9) (i := 2) (j := 2) dJ1_indexOf_4cfef_9 rfl rfl ?_
    refine z_iconst (pc := 10) dJ1_indexOf_4cfef_10 ki_0 ?_
    refine z_mmax (pc := 11) dJ1_indexOf_4cfef_11 lx_RJ1_92 mx_max.1 mx_max.2.1 mx_max.2.2 (Nat.le_of_ble_eq_true rfl) ?_
    refine z_istore_n (pc := 14) (i := 2) (ls' := [(2, .int (if v2 < 0 then 0 else v2)), (0, .ref v0), (1, .int v1), (3, .int v3)]) dJ1_indexOf_4cfef_14 rfl (Nat.le_of_ble_eq_true rfl) rfl ?_
    refine z_iload_n (pc := 15) (i := 3) (j := 3) dJ1_indexOf_4cfef_15 rfl rfl ?_
    refine z_aload_n (pc := 16) (i := 0) (j := 1) dJ1_indexOf_4cfef_16 rfl rfl ?_
    obtain ⟨w2, hw2, hf⟩ := Option.bind_eq_some_iff.mp hf
    refine z_oalen (pc := 17) dJ1_indexOf_4cfef_17 hw2 ?_
    refine z_mmin (pc := 18) dJ1_indexOf_4cfef_18 lx_RJ1_38 mx_min.1 mx_min.2.1 mx_min.2.2 (Nat.le_of_ble_eq_true rfl) ?_
    refine z_istore_n (pc := 21) (i := 3) (ls' := [(3, .int (if w2 < v3 then w2 else v3)), (2, .int (if v2 < 0 then 0 else v2)), (0, .ref v0), (1, .int v1)]) dJ1_indexOf_4cfef_21 rfl (Nat.le_of_ble_eq_true rfl) rfl ?_
    refine z_iload_n (pc := 22) (i := 2) (j := 1) dJ1_indexOf_4cfef_22 rfl rfl ?_
    refine z_iload_n (pc := 23) (i := 3) (j := 0) dJ1_indexOf_4cfef_23 rfl rfl ?_
    refine z_icmp_lt (pc := 24) (tgt := 29) dJ1_indexOf_4cfef_24 (by decide) (fun hc => ?_) (fun hc => ?_)
    · rw [if_pos hc] at hf
      refine z_aload_n (pc := 29) (i := 0) (j := 2) dJ1_indexOf_4cfef_29 rfl rfl ?_
      refine z_iload_n (pc := 30) (i := 1) (j := 3) dJ1_indexOf_4cfef_30 rfl rfl ?_
      refine z_iload_n (pc := 31) (i := 2) (j := 1) dJ1_indexOf_4cfef_31 rfl rfl ?_
      refine z_iload_n (pc := 32) (i := 3) (j := 0) dJ1_indexOf_4cfef_32 rfl rfl ?_
      obtain ⟨q3, hq3, hf⟩ := Option.bind_eq_some_iff.mp hf
      refine z_oSi (pc := 33) (as := [.ref v0, .int v1, .int (if v2 < 0 then 0 else v2), .int (if w2 < v3 then w2 else v3)]) (rest := []) dJ1_indexOf_4cfef_33 lm_RJ1_95 mf_J1_indexOfChar_4cfef ms_J1_indexOfChar_4cfef rfl rfl (Nat.le_of_ble_eq_true rfl) (c_J1_indexOfChar_4cfef e (by omega) v0 v1 (if v2 < 0 then 0 else v2) (if w2 < v3 then w2 else v3) q1.2 hq3) ?_
      obtain rfl := Option.some.inj hf
      rw [h0 _ hK]
      exact z_iret dJ1_indexOf_4cfef_36 rfl rfl
    · rw [if_neg hc] at hf
      refine z_iconst (pc := 27) dJ1_indexOf_4cfef_27 ki_n1 ?_
      obtain rfl := Option.some.inj hf
      rw [h0 _ hK]
      exact z_iret dJ1_indexOf_4cfef_28 rfl rfl
  · rw [if_pos hc] at hf
    refine z_iconst (pc := 7) dJ1_indexOf_4cfef_7 ki_n1 ?_
    obtain rfl := Option.some.inj hf
    rw [h0 _ hK]
    exact z_iret dJ1_indexOf_4cfef_8 rfl rfl
set_option maxHeartbeats 4000000 in
set_option maxRecDepth 100000 in
theorem c_J1_indexOf_4cfef (d : Nat) (hd : 1 ≤ d) (v0 : Nat) (v1 : Int32) (v2 : Int32) (v3 : Int32) (m : ej_M) {q : (Int32 × ej_M)} (hf : f_J1_indexOf_4cfef v0 v1 v2 v3 m = some q) : ej_Ct yJ1_indexOf_4cfef cJ1_indexOf_4cfef 4 (some .int) d [.ref v0, .int v1, .int v2, .int v3] (ej_sh, m) ((some (Value.int q.1), (ej_sh, q.2)) : Option Value × ej_H) := by
  obtain ⟨e, rfl⟩ : ∃ e, d = e + 1 := ⟨d - 1, by omega⟩
  exact z_met (by decide +kernel) (Nat.le_of_ble_eq_true rfl) (b_J1_indexOf_4cfef e (by omega) v0 v1 v2 v3 m (K := fun z => ((some (Value.int q.1), (ej_sh, q.2)) : Option Value × ej_H) = (some (Value.int z.1), (ej_sh, z.2))) hf rfl (fun _ h => h))
def f_J0_indexOf_7cf53 (v0 : Nat) (v1 : Int32) (v2 : Int32) (m : ej_M) : Option (Int32 × ej_M) :=
  (oj_sv v0).bind fun w1 =>
  (f_J0_isLatin1_aae02 v0 m).bind fun q2 =>
  if q2.1 = 0 then
    (oj_sv v0).bind fun w3 =>
    (oj_sv v0).bind fun w4 =>
    (f_J0_length_8abf5 v0 q2.2).bind fun q5 =>
    none
  else
    (oj_sv v0).bind fun w6 =>
    (oj_sv v0).bind fun w7 =>
    (f_J0_length_8abf5 v0 q2.2).bind fun q8 =>
    (f_J1_indexOf_4cfef w6 v1 v2 q8.1 q8.2).bind fun q9 =>
    some (q9.1, q9.2)
set_option maxHeartbeats 4000000 in
set_option maxRecDepth 100000 in
theorem b_J0_indexOf_7cf53 (e : Nat) (hd : 1 ≤ e) (v0 : Nat) (v1 : Int32) (v2 : Int32) (m : ej_M) {x : (Int32 × ej_M)} {res : Option Value × ej_H} {K : (Int32 × ej_M) → Prop} (hf : f_J0_indexOf_7cf53 v0 v1 v2 m = some x) (hK : K x) (h0 : ∀ q : (Int32 × ej_M), K q → res = (some (Value.int q.1), (ej_sh, q.2))) : ej_Z cJ0_indexOf_7cf53 3 (some .int) RJ0 "indexOf" (e + 1) 0 [(0, .ref v0), (1, .int v1), (2, .int v2)] [] (ej_sh, m) res := by
  unfold f_J0_indexOf_7cf53 at hf
  refine z_aload_n (pc := 0) (i := 0) (j := 0) dJ0_indexOf_7cf53_0 rfl rfl ?_
  obtain ⟨w1, hw1, hf⟩ := Option.bind_eq_some_iff.mp hf
  obtain ⟨q2, hq2, hf⟩ := Option.bind_eq_some_iff.mp hf
  refine z_oVi (pc := 1) (as := []) (rest := []) dJ0_indexOf_7cf53_1 lm_RJ0_492 mf_J0_isLatin1_aae02 mi_J0_isLatin1_aae02 mv_J0_isLatin1_aae02 (ej_RCS hw1) rfl rfl (Nat.le_of_ble_eq_true rfl) (c_J0_isLatin1_aae02 e (by omega) v0 m hq2) ?_
  refine z_if_eq (pc := 4) (tgt := 23) dJ0_indexOf_7cf53_4 (by decide) (fun hc => ?_) (fun hc => ?_)
  · rw [if_pos hc] at hf
    refine z_aload_n (pc := 23) (i := 0) (j := 0) dJ0_indexOf_7cf53_23 rfl rfl ?_
    obtain ⟨w3, hw3, hf⟩ := Option.bind_eq_some_iff.mp hf
    refine z_ogetSV (pc := 24) dJ0_indexOf_7cf53_24 ls_RJ0_9 hw3 ?_
    refine z_iload_n (pc := 27) (i := 1) (j := 1) dJ0_indexOf_7cf53_27 rfl rfl ?_
    refine z_iload_n (pc := 28) (i := 2) (j := 2) dJ0_indexOf_7cf53_28 rfl rfl ?_
    refine z_aload_n (pc := 29) (i := 0) (j := 0) dJ0_indexOf_7cf53_29 rfl rfl ?_
    obtain ⟨w4, hw4, hf⟩ := Option.bind_eq_some_iff.mp hf
    obtain ⟨q5, hq5, hf⟩ := Option.bind_eq_some_iff.mp hf
    refine z_oVi (pc := 30) (as := []) (rest := [.int v2, .int v1, .ref w3]) dJ0_indexOf_7cf53_30 lm_RJ0_505 mf_J0_length_8abf5 mi_J0_length_8abf5 mv_J0_length_8abf5 (ej_RCS hw4) rfl rfl (Nat.le_of_ble_eq_true rfl) (c_J0_length_8abf5 e (by omega) v0 q2.2 hq5) ?_
    cases hf
  · rw [if_neg hc] at hf
    refine z_aload_n (pc := 7) (i := 0) (j := 0) dJ0_indexOf_7cf53_7 rfl rfl ?_
    obtain ⟨w6, hw6, hf⟩ := Option.bind_eq_some_iff.mp hf
    refine z_ogetSV (pc := 8) dJ0_indexOf_7cf53_8 ls_RJ0_9 hw6 ?_
    refine z_iload_n (pc := 11) (i := 1) (j := 1) dJ0_indexOf_7cf53_11 rfl rfl ?_
    refine z_iload_n (pc := 12) (i := 2) (j := 2) dJ0_indexOf_7cf53_12 rfl rfl ?_
    refine z_aload_n (pc := 13) (i := 0) (j := 0) dJ0_indexOf_7cf53_13 rfl rfl ?_
    obtain ⟨w7, hw7, hf⟩ := Option.bind_eq_some_iff.mp hf
    obtain ⟨q8, hq8, hf⟩ := Option.bind_eq_some_iff.mp hf
    refine z_oVi (pc := 14) (as := []) (rest := [.int v2, .int v1, .ref w6]) dJ0_indexOf_7cf53_14 lm_RJ0_505 mf_J0_length_8abf5 mi_J0_length_8abf5 mv_J0_length_8abf5 (ej_RCS hw7) rfl rfl (Nat.le_of_ble_eq_true rfl) (c_J0_length_8abf5 e (by omega) v0 q2.2 hq8) ?_
    obtain ⟨q9, hq9, hf⟩ := Option.bind_eq_some_iff.mp hf
    refine z_oSi (pc := 17) (as := [.ref w6, .int v1, .int v2, .int q8.1]) (rest := []) dJ0_indexOf_7cf53_17 lm_RJ0_637 mf_J1_indexOf_4cfef ms_J1_indexOf_4cfef rfl rfl (Nat.le_of_ble_eq_true rfl) (c_J1_indexOf_4cfef e (by omega) w6 v1 v2 q8.1 q8.2 hq9) ?_
    refine z_goto (pc := 20) (tgt := 36) dJ0_indexOf_7cf53_20 (by decide) ?_
    obtain rfl := Option.some.inj hf
    rw [h0 _ hK]
    exact z_iret dJ0_indexOf_7cf53_36 rfl rfl
set_option maxHeartbeats 4000000 in
set_option maxRecDepth 100000 in
theorem c_J0_indexOf_7cf53 (d : Nat) (hd : 2 ≤ d) (v0 : Nat) (v1 : Int32) (v2 : Int32) (m : ej_M) {q : (Int32 × ej_M)} (hf : f_J0_indexOf_7cf53 v0 v1 v2 m = some q) : ej_Ct yJ0_indexOf_7cf53 cJ0_indexOf_7cf53 3 (some .int) d [.ref v0, .int v1, .int v2] (ej_sh, m) ((some (Value.int q.1), (ej_sh, q.2)) : Option Value × ej_H) := by
  obtain ⟨e, rfl⟩ : ∃ e, d = e + 1 := ⟨d - 1, by omega⟩
  exact z_met (by decide +kernel) (Nat.le_of_ble_eq_true rfl) (b_J0_indexOf_7cf53 e (by omega) v0 v1 v2 m (K := fun z => ((some (Value.int q.1), (ej_sh, q.2)) : Option Value × ej_H) = (some (Value.int z.1), (ej_sh, z.2))) hf rfl (fun _ h => h))
def f_J0_indexOf_0f7a4 (v0 : Nat) (v1 : Int32) (m : ej_M) : Option (Int32 × ej_M) :=
  (oj_sv v0).bind fun w1 =>
  (f_J0_indexOf_7cf53 v0 v1 0 m).bind fun q2 =>
  some (q2.1, q2.2)
set_option maxHeartbeats 4000000 in
set_option maxRecDepth 100000 in
theorem b_J0_indexOf_0f7a4 (e : Nat) (hd : 2 ≤ e) (v0 : Nat) (v1 : Int32) (m : ej_M) {x : (Int32 × ej_M)} {res : Option Value × ej_H} {K : (Int32 × ej_M) → Prop} (hf : f_J0_indexOf_0f7a4 v0 v1 m = some x) (hK : K x) (h0 : ∀ q : (Int32 × ej_M), K q → res = (some (Value.int q.1), (ej_sh, q.2))) : ej_Z cJ0_indexOf_0f7a4 2 (some .int) RJ0 "indexOf" (e + 1) 0 [(0, .ref v0), (1, .int v1)] [] (ej_sh, m) res := by
  unfold f_J0_indexOf_0f7a4 at hf
  refine z_aload_n (pc := 0) (i := 0) (j := 0) dJ0_indexOf_0f7a4_0 rfl rfl ?_
  refine z_iload_n (pc := 1) (i := 1) (j := 1) dJ0_indexOf_0f7a4_1 rfl rfl ?_
  refine z_iconst (pc := 2) dJ0_indexOf_0f7a4_2 ki_0 ?_
  obtain ⟨w1, hw1, hf⟩ := Option.bind_eq_some_iff.mp hf
  obtain ⟨q2, hq2, hf⟩ := Option.bind_eq_some_iff.mp hf
  refine z_oVi (pc := 3) (as := [.int v1, .int 0]) (rest := []) dJ0_indexOf_0f7a4_3 lm_RJ0_633 mf_J0_indexOf_7cf53 mi_J0_indexOf_7cf53 mv_J0_indexOf_7cf53 (ej_RCS hw1) rfl rfl (Nat.le_of_ble_eq_true rfl) (c_J0_indexOf_7cf53 e (by omega) v0 v1 0 m hq2) ?_
  obtain rfl := Option.some.inj hf
  rw [h0 _ hK]
  exact z_iret dJ0_indexOf_0f7a4_6 rfl rfl
set_option maxHeartbeats 4000000 in
set_option maxRecDepth 100000 in
theorem c_J0_indexOf_0f7a4 (d : Nat) (hd : 3 ≤ d) (v0 : Nat) (v1 : Int32) (m : ej_M) {q : (Int32 × ej_M)} (hf : f_J0_indexOf_0f7a4 v0 v1 m = some q) : ej_Ct yJ0_indexOf_0f7a4 cJ0_indexOf_0f7a4 2 (some .int) d [.ref v0, .int v1] (ej_sh, m) ((some (Value.int q.1), (ej_sh, q.2)) : Option Value × ej_H) := by
  obtain ⟨e, rfl⟩ : ∃ e, d = e + 1 := ⟨d - 1, by omega⟩
  exact z_met (by decide +kernel) (Nat.le_of_ble_eq_true rfl) (b_J0_indexOf_0f7a4 e (by omega) v0 v1 m (K := fun z => ((some (Value.int q.1), (ej_sh, q.2)) : Option Value × ej_H) = (some (Value.int z.1), (ej_sh, z.2))) hf rfl (fun _ h => h))
def f_X2_seen  (m : ej_M) : Option (Int32 × ej_M) :=
  if (m.1 1 1) ≤ (m.1 1 2) then
    some ((-1), m)
  else
    (f_X10_at 2 (m.1 1 2) m).bind fun q1 =>
    some (q1.1, q1.2)
set_option maxHeartbeats 4000000 in
set_option maxRecDepth 100000 in
theorem b_X2_seen (e : Nat) (hd : 0 ≤ e)  (m : ej_M) {x : (Int32 × ej_M)} {res : Option Value × ej_H} {K : (Int32 × ej_M) → Prop} (hf : f_X2_seen  m = some x) (hK : K x) (h0 : ∀ q : (Int32 × ej_M), K q → res = (some (Value.int q.1), (ej_sh, q.2))) : ej_Z cX2_seen 1 (some .int) RX2 "seen" (e + 1) 0 [(0, .ref 1)] [] (ej_sh, m) res := by
  unfold f_X2_seen at hf
  refine z_aload_n (pc := 0) (i := 0) (j := 0) dX2_seen_0 rfl rfl ?_
  refine z_ogetI (pc := 1) dX2_seen_1 lf_RX2_32 sh_1 rfl rfl ?_
  refine z_aload_n (pc := 4) (i := 0) (j := 0) dX2_seen_4 rfl rfl ?_
  refine z_ogetI (pc := 5) dX2_seen_5 lf_RX2_24 sh_1 rfl rfl ?_
  refine z_icmp_ge (pc := 8) (tgt := 25) dX2_seen_8 (by decide) (fun hc => ?_) (fun hc => ?_)
  · rw [if_pos hc] at hf
    refine z_iconst (pc := 25) dX2_seen_25 ki_n1 ?_
    obtain rfl := Option.some.inj hf
    rw [h0 _ hK]
    exact z_iret dX2_seen_26 rfl rfl
  · rw [if_neg hc] at hf
    refine z_aload_n (pc := 11) (i := 0) (j := 0) dX2_seen_11 rfl rfl ?_
    refine z_ogetR (pc := 12) dX2_seen_12 lf_RX2_11 sh_1 rfl rfl rfl ?_
    refine z_aload_n (pc := 15) (i := 0) (j := 0) dX2_seen_15 rfl rfl ?_
    refine z_ogetI (pc := 16) dX2_seen_16 lf_RX2_32 sh_1 rfl rfl ?_
    obtain ⟨q1, hq1, hf⟩ := Option.bind_eq_some_iff.mp hf
    refine z_oSi (pc := 19) (as := [.ref 2, .int (m.1 1 2)]) (rest := []) dX2_seen_19 lm_RX2_107 mf_X10_at ms_X10_at rfl rfl (Nat.le_of_ble_eq_true rfl) (c_X10_at e (by omega) 2 (m.1 1 2) m hq1) ?_
    refine z_goto (pc := 22) (tgt := 26) dX2_seen_22 (by decide) ?_
    obtain rfl := Option.some.inj hf
    rw [h0 _ hK]
    exact z_iret dX2_seen_26 rfl rfl
set_option maxHeartbeats 4000000 in
set_option maxRecDepth 100000 in
theorem c_X2_seen (d : Nat) (hd : 1 ≤ d)  (m : ej_M) {q : (Int32 × ej_M)} (hf : f_X2_seen  m = some q) : ej_Ct yX2_seen cX2_seen 1 (some .int) d [.ref 1] (ej_sh, m) ((some (Value.int q.1), (ej_sh, q.2)) : Option Value × ej_H) := by
  obtain ⟨e, rfl⟩ : ∃ e, d = e + 1 := ⟨d - 1, by omega⟩
  exact z_met (by decide +kernel) (Nat.le_of_ble_eq_true rfl) (b_X2_seen e (by omega)  m (K := fun z => ((some (Value.int q.1), (ej_sh, q.2)) : Option Value × ej_H) = (some (Value.int z.1), (ej_sh, z.2))) hf rfl (fun _ h => h))
def f_X2_passed (v1 : Nat) (m : ej_M) : Option (Int32 × ej_M) :=
  (f_X2_seen m).bind fun q1 =>
  if q1.1 ≤ 0 then
    some (0, q1.2)
  else
    (oj_sv v1).bind fun w2 =>
    (f_J0_indexOf_0f7a4 v1 ((Int32.toUInt32 q1.1 % 65536).toInt32) q1.2).bind fun q3 =>
    if 0 ≤ q3.1 then
      (oj_pf q3.2 1 2 ((q3.2.1 1 2) + 1)).bind fun m4 =>
      some (q1.1, m4)
    else
      some (0, q3.2)
set_option maxHeartbeats 4000000 in
set_option maxRecDepth 100000 in
theorem b_X2_passed (e : Nat) (hd : 3 ≤ e) (v1 : Nat) (m : ej_M) {x : (Int32 × ej_M)} {res : Option Value × ej_H} {K : (Int32 × ej_M) → Prop} (hf : f_X2_passed v1 m = some x) (hK : K x) (h0 : ∀ q : (Int32 × ej_M), K q → res = (some (Value.int q.1), (ej_sh, q.2))) : ej_Z cX2_passed 3 (some .int) RX2 "passed" (e + 1) 0 [(0, .ref 1), (1, .ref v1)] [] (ej_sh, m) res := by
  unfold f_X2_passed at hf
  refine z_aload_n (pc := 0) (i := 0) (j := 0) dX2_passed_0 rfl rfl ?_
  obtain ⟨q1, hq1, hf⟩ := Option.bind_eq_some_iff.mp hf
  refine z_oVi (pc := 1) (as := []) (rest := []) dX2_passed_1 lm_RX2_83 mf_X2_seen mi_X2_seen mv_X2_seen rc_1 rfl rfl (Nat.le_of_ble_eq_true rfl) (c_X2_seen e (by omega) m hq1) ?_
  refine z_istore_n (pc := 4) (i := 2) (ls' := [(2, .int q1.1), (0, .ref 1), (1, .ref v1)]) dX2_passed_4 rfl (Nat.le_of_ble_eq_true rfl) rfl ?_
  refine z_iload_n (pc := 5) (i := 2) (j := 0) dX2_passed_5 rfl rfl ?_
  refine z_if_le (pc := 6) (tgt := 18) dX2_passed_6 (by decide) (fun hc => ?_) (fun hc => ?_)
  · rw [if_pos hc] at hf
    refine z_iconst (pc := 18) dX2_passed_18 ki_0 ?_
    obtain rfl := Option.some.inj hf
    rw [h0 _ hK]
    exact z_iret dX2_passed_19 rfl rfl
  · rw [if_neg hc] at hf
    refine z_aload_n (pc := 9) (i := 1) (j := 2) dX2_passed_9 rfl rfl ?_
    refine z_iload_n (pc := 10) (i := 2) (j := 0) dX2_passed_10 rfl rfl ?_
    refine z_i2c (pc := 11) dX2_passed_11 ?_
    obtain ⟨w2, hw2, hf⟩ := Option.bind_eq_some_iff.mp hf
    obtain ⟨q3, hq3, hf⟩ := Option.bind_eq_some_iff.mp hf
    refine z_oVi (pc := 12) (as := [.int ((Int32.toUInt32 q1.1 % 65536).toInt32)]) (rest := []) dX2_passed_12 lm_RX2_95 mf_J0_indexOf_0f7a4 mi_J0_indexOf_0f7a4 mv_J0_indexOf_0f7a4 (ej_RCS hw2) rfl rfl (Nat.le_of_ble_eq_true rfl) (c_J0_indexOf_0f7a4 e (by omega) v1 ((Int32.toUInt32 q1.1 % 65536).toInt32) q1.2 hq3) ?_
    refine z_if_ge (pc := 15) (tgt := 20) dX2_passed_15 (by decide) (fun hc => ?_) (fun hc => ?_)
    · rw [if_pos hc] at hf
      refine z_aload_n (pc := 20) (i := 0) (j := 1) dX2_passed_20 rfl rfl ?_
      refine z_dup (pc := 21) dX2_passed_21 rfl ?_
      refine z_ogetI (pc := 22) dX2_passed_22 lf_RX2_32 sh_1 rfl rfl ?_
      refine z_iconst (pc := 25) dX2_passed_25 ki_1 ?_
      refine z_iadd (pc := 26) dX2_passed_26 ?_
      obtain ⟨m4, hm4, hf⟩ := Option.bind_eq_some_iff.mp hf
      refine z_oputI (pc := 27) dX2_passed_27 lf_RX2_32 sh_1 rfl hm4 ?_
      refine z_iload_n (pc := 30) (i := 2) (j := 0) dX2_passed_30 rfl rfl ?_
      obtain rfl := Option.some.inj hf
      rw [h0 _ hK]
      exact z_iret dX2_passed_31 rfl rfl
    · rw [if_neg hc] at hf
      refine z_iconst (pc := 18) dX2_passed_18 ki_0 ?_
      obtain rfl := Option.some.inj hf
      rw [h0 _ hK]
      exact z_iret dX2_passed_19 rfl rfl
set_option maxHeartbeats 4000000 in
set_option maxRecDepth 100000 in
theorem c_X2_passed (d : Nat) (hd : 4 ≤ d) (v1 : Nat) (m : ej_M) {q : (Int32 × ej_M)} (hf : f_X2_passed v1 m = some q) : ej_Ct yX2_passed cX2_passed 3 (some .int) d [.ref 1, .ref v1] (ej_sh, m) ((some (Value.int q.1), (ej_sh, q.2)) : Option Value × ej_H) := by
  obtain ⟨e, rfl⟩ : ∃ e, d = e + 1 := ⟨d - 1, by omega⟩
  exact z_met (by decide +kernel) (Nat.le_of_ble_eq_true rfl) (b_X2_passed e (by omega) v1 m (K := fun z => ((some (Value.int q.1), (ej_sh, q.2)) : Option Value × ej_H) = (some (Value.int z.1), (ej_sh, z.2))) hf rfl (fun _ h => h))
def f_X2_emit (v1 : Int32) (m : ej_M) : Option (Unit × ej_M) :=
  (f_X10_lay 3 (m.1 1 4) v1 m).bind fun q1 =>
  (oj_pf q1.2 1 4 ((q1.2.1 1 4) + 1)).bind fun m2 =>
  some ((), m2)
set_option maxHeartbeats 4000000 in
set_option maxRecDepth 100000 in
theorem b_X2_emit (e : Nat) (hd : 0 ≤ e) (v1 : Int32) (m : ej_M) {x : (Unit × ej_M)} {res : Option Value × ej_H} {K : (Unit × ej_M) → Prop} (hf : f_X2_emit v1 m = some x) (hK : K x) (h0 : ∀ q : (Unit × ej_M), K q → res = (none, (ej_sh, q.2))) : ej_Z cX2_emit 2 none RX2 "emit" (e + 1) 0 [(0, .ref 1), (1, .int v1)] [] (ej_sh, m) res := by
  unfold f_X2_emit at hf
  refine z_aload_n (pc := 0) (i := 0) (j := 0) dX2_emit_0 rfl rfl ?_
  refine z_ogetR (pc := 1) dX2_emit_1 lf_RX2_15 sh_1 rfl rfl rfl ?_
  refine z_aload_n (pc := 4) (i := 0) (j := 0) dX2_emit_4 rfl rfl ?_
  refine z_ogetI (pc := 5) dX2_emit_5 lf_RX2_35 sh_1 rfl rfl ?_
  refine z_iload_n (pc := 8) (i := 1) (j := 1) dX2_emit_8 rfl rfl ?_
  obtain ⟨q1, hq1, hf⟩ := Option.bind_eq_some_iff.mp hf
  refine z_oSv (pc := 9) (as := [.ref 3, .int (m.1 1 4), .int v1]) (rest := []) dX2_emit_9 lm_RX2_28 mf_X10_lay ms_X10_lay rfl rfl (Nat.le_of_ble_eq_true rfl) (c_X10_lay e (by omega) 3 (m.1 1 4) v1 m hq1) ?_
  refine z_aload_n (pc := 12) (i := 0) (j := 0) dX2_emit_12 rfl rfl ?_
  refine z_dup (pc := 13) dX2_emit_13 rfl ?_
  refine z_ogetI (pc := 14) dX2_emit_14 lf_RX2_35 sh_1 rfl rfl ?_
  refine z_iconst (pc := 17) dX2_emit_17 ki_1 ?_
  refine z_iadd (pc := 18) dX2_emit_18 ?_
  obtain ⟨m2, hm2, hf⟩ := Option.bind_eq_some_iff.mp hf
  refine z_oputI (pc := 19) dX2_emit_19 lf_RX2_35 sh_1 rfl hm2 ?_
  obtain rfl := Option.some.inj hf
  rw [h0 _ hK]
  exact z_ret dX2_emit_22 rfl
set_option maxHeartbeats 4000000 in
set_option maxRecDepth 100000 in
theorem c_X2_emit (d : Nat) (hd : 1 ≤ d) (v1 : Int32) (m : ej_M) {q : (Unit × ej_M)} (hf : f_X2_emit v1 m = some q) : ej_Ct yX2_emit cX2_emit 2 none d [.ref 1, .int v1] (ej_sh, m) ((none, (ej_sh, q.2)) : Option Value × ej_H) := by
  obtain ⟨e, rfl⟩ : ∃ e, d = e + 1 := ⟨d - 1, by omega⟩
  exact z_met (by decide +kernel) (Nat.le_of_ble_eq_true rfl) (b_X2_emit e (by omega) v1 m (K := fun z => ((none, (ej_sh, q.2)) : Option Value × ej_H) = (none, (ej_sh, z.2))) hf rfl (fun _ h => h))
def f_X2_isDigit (v0 : Int32) (m : ej_M) : Option (Int32 × ej_M) :=
  if v0 < 48 then
    some (0, m)
  else
    if 57 < v0 then
      some (0, m)
    else
      some (1, m)
set_option maxHeartbeats 4000000 in
set_option maxRecDepth 100000 in
theorem b_X2_isDigit (d : Nat) (v0 : Int32) (m : ej_M) {x : (Int32 × ej_M)} {res : Option Value × ej_H} {K : (Int32 × ej_M) → Prop} (hf : f_X2_isDigit v0 m = some x) (hK : K x) (h0 : ∀ q : (Int32 × ej_M), K q → res = (some (Value.int q.1), (ej_sh, q.2))) : ej_Z cX2_isDigit 1 (some .boolean) RX2 "isDigit" d 0 [(0, .int v0)] [] (ej_sh, m) res := by
  unfold f_X2_isDigit at hf
  refine z_iload_n (pc := 0) (i := 0) (j := 0) dX2_isDigit_0 rfl rfl ?_
  refine z_bipush (pc := 1) dX2_isDigit_1 kb_48 ?_
  refine z_icmp_lt (pc := 3) (tgt := 16) dX2_isDigit_3 (by decide) (fun hc => ?_) (fun hc => ?_)
  · rw [if_pos hc] at hf
    refine z_iconst (pc := 16) dX2_isDigit_16 ki_0 ?_
    obtain rfl := Option.some.inj hf
    rw [h0 _ hK]
    exact z_iret dX2_isDigit_17 rfl rfl
  · rw [if_neg hc] at hf
    refine z_iload_n (pc := 6) (i := 0) (j := 0) dX2_isDigit_6 rfl rfl ?_
    refine z_bipush (pc := 7) dX2_isDigit_7 kb_57 ?_
    refine z_icmp_gt (pc := 9) (tgt := 16) dX2_isDigit_9 (by decide) (fun hc => ?_) (fun hc => ?_)
    · rw [if_pos hc] at hf
      refine z_iconst (pc := 16) dX2_isDigit_16 ki_0 ?_
      obtain rfl := Option.some.inj hf
      rw [h0 _ hK]
      exact z_iret dX2_isDigit_17 rfl rfl
    · rw [if_neg hc] at hf
      refine z_iconst (pc := 12) dX2_isDigit_12 ki_1 ?_
      refine z_goto (pc := 13) (tgt := 17) dX2_isDigit_13 (by decide) ?_
      obtain rfl := Option.some.inj hf
      rw [h0 _ hK]
      exact z_iret dX2_isDigit_17 rfl rfl
set_option maxHeartbeats 4000000 in
set_option maxRecDepth 100000 in
theorem c_X2_isDigit (d : Nat) (hd : 0 ≤ d) (v0 : Int32) (m : ej_M) {q : (Int32 × ej_M)} (hf : f_X2_isDigit v0 m = some q) : ej_Ct yX2_isDigit cX2_isDigit 1 (some .boolean) d [.int v0] (ej_sh, m) ((some (Value.int q.1), (ej_sh, q.2)) : Option Value × ej_H) := by
  exact z_met (by decide +kernel) (Nat.le_of_ble_eq_true rfl) (b_X2_isDigit d v0 m (K := fun z => ((some (Value.int q.1), (ej_sh, q.2)) : Option Value × ej_H) = (some (Value.int z.1), (ej_sh, z.2))) hf rfl (fun _ h => h))
def f_X2_readNumber_B48 (v1 : Int32) (m : ej_M) : Option (Int32 × ej_M) :=
  (f_X2_emit v1 m).bind fun q1 =>
  some (1, q1.2)
set_option maxHeartbeats 4000000 in
set_option maxRecDepth 100000 in
theorem b_X2_readNumber_B48 (e : Nat) (hd : 1 ≤ e) (v1 : Int32) (m : ej_M) {x : (Int32 × ej_M)} {res : Option Value × ej_H} {K : (Int32 × ej_M) → Prop} (hf : f_X2_readNumber_B48 v1 m = some x) (hK : K x) (h0 : ∀ q : (Int32 × ej_M), K q → res = (some (Value.int q.1), (ej_sh, q.2))) : ej_Z cX2_readNumber 3 (some .boolean) RX2 "readNumber" (e + 1) 48 [(0, .ref 1), (1, .int v1)] [] (ej_sh, m) res := by
  unfold f_X2_readNumber_B48 at hf
  refine z_aload_n (pc := 48) (i := 0) (j := 0) dX2_readNumber_48 rfl rfl ?_
  refine z_iload_n (pc := 49) (i := 1) (j := 1) dX2_readNumber_49 rfl rfl ?_
  obtain ⟨q1, hq1, hf⟩ := Option.bind_eq_some_iff.mp hf
  refine z_oVv (pc := 50) (as := [.int v1]) (rest := []) dX2_readNumber_50 lm_RX2_61 mf_X2_emit mi_X2_emit mv_X2_emit rc_1 rfl rfl (Nat.le_of_ble_eq_true rfl) (c_X2_emit e (by omega) v1 m hq1) ?_
  refine z_iconst (pc := 53) dX2_readNumber_53 ki_1 ?_
  obtain rfl := Option.some.inj hf
  rw [h0 _ hK]
  exact z_iret dX2_readNumber_54 rfl rfl
def f_X2_readNumber_L4b (v1 : Int32) (v2 : Int32) (m : ej_M) : Option ((Int32 × Int32 × ej_M) ⊕ (Int32 × ej_M)) :=
  if 4 ≤ v2 then
    (f_X2_readNumber_B48 v1 m).map fun y => (Sum.inr y)
  else
    (f_X2_seen m).bind fun q1 =>
    (f_X2_isDigit q1.1 q1.2).bind fun q2 =>
    if q2.1 = 0 then
      (f_X2_readNumber_B48 v1 q2.2).map fun y => (Sum.inr y)
    else
      (f_X2_seen q2.2).bind fun q3 =>
      (oj_pf q3.2 1 2 ((q3.2.1 1 2) + 1)).bind fun m4 =>
      some (Sum.inl ((((v1 * 10) + q3.1) - 48), (v2 + 1), m4))
set_option maxHeartbeats 4000000 in
set_option maxRecDepth 100000 in
theorem b_X2_readNumber_L4b (e : Nat) (hd : 1 ≤ e) (v1 : Int32) (v2 : Int32) (m : ej_M) {x : ((Int32 × Int32 × ej_M) ⊕ (Int32 × ej_M))} {res : Option Value × ej_H} {K : ((Int32 × Int32 × ej_M) ⊕ (Int32 × ej_M)) → Prop} (hf : f_X2_readNumber_L4b v1 v2 m = some x) (hK : K x) (h1 : ∀ q : (Int32 × Int32 × ej_M), K (Sum.inl q) → ej_Z cX2_readNumber 3 (some .boolean) RX2 "readNumber" (e + 1) 4 [(0, .ref 1), (1, .int q.1), (2, .int q.2.1)] [] (ej_sh, q.2.2) res) (h0 : ∀ q : (Int32 × ej_M), K (Sum.inr q) → res = (some (Value.int q.1), (ej_sh, q.2))) : ej_Z cX2_readNumber 3 (some .boolean) RX2 "readNumber" (e + 1) 4 [(0, .ref 1), (1, .int v1), (2, .int v2)] [] (ej_sh, m) res := by
  unfold f_X2_readNumber_L4b at hf
  refine z_iload_n (pc := 4) (i := 2) (j := 2) dX2_readNumber_4 rfl rfl ?_
  refine z_iconst (pc := 5) dX2_readNumber_5 ki_4 ?_
  refine z_icmp_ge (pc := 6) (tgt := 48) dX2_readNumber_6 (by decide) (fun hc => ?_) (fun hc => ?_)
  · rw [if_pos hc] at hf
    obtain ⟨y, hy, hxy⟩ := Option.map_eq_some_iff.mp hf
    subst hxy
    exact z_pick [0, 1] rfl (b_X2_readNumber_B48 e hd v1 m (K := fun y => K (Sum.inr y)) hy hK  h0)
  · rw [if_neg hc] at hf
    refine z_aload_n (pc := 9) (i := 0) (j := 0) dX2_readNumber_9 rfl rfl ?_
    obtain ⟨q1, hq1, hf⟩ := Option.bind_eq_some_iff.mp hf
    refine z_oVi (pc := 10) (as := []) (rest := []) dX2_readNumber_10 lm_RX2_83 mf_X2_seen mi_X2_seen mv_X2_seen rc_1 rfl rfl (Nat.le_of_ble_eq_true rfl) (c_X2_seen e (by omega) m hq1) ?_
    obtain ⟨q2, hq2, hf⟩ := Option.bind_eq_some_iff.mp hf
    refine z_oSi (pc := 13) (as := [.int q1.1]) (rest := []) dX2_readNumber_13 lm_RX2_87 mf_X2_isDigit ms_X2_isDigit rfl rfl (Nat.le_of_ble_eq_true rfl) (c_X2_isDigit e (by omega) q1.1 q1.2 hq2) ?_
    refine z_if_eq (pc := 16) (tgt := 48) dX2_readNumber_16 (by decide) (fun hc => ?_) (fun hc => ?_)
    · rw [if_pos hc] at hf
      obtain ⟨y, hy, hxy⟩ := Option.map_eq_some_iff.mp hf
      subst hxy
      exact z_pick [0, 1] rfl (b_X2_readNumber_B48 e hd v1 q2.2 (K := fun y => K (Sum.inr y)) hy hK  h0)
    · rw [if_neg hc] at hf
      refine z_iload_n (pc := 19) (i := 1) (j := 1) dX2_readNumber_19 rfl rfl ?_
      refine z_bipush (pc := 20) dX2_readNumber_20 kb_10 ?_
      refine z_imul (pc := 22) dX2_readNumber_22 ?_
      refine z_aload_n (pc := 23) (i := 0) (j := 0) dX2_readNumber_23 rfl rfl ?_
      obtain ⟨q3, hq3, hf⟩ := Option.bind_eq_some_iff.mp hf
      refine z_oVi (pc := 24) (as := []) (rest := [.int (v1 * 10)]) dX2_readNumber_24 lm_RX2_83 mf_X2_seen mi_X2_seen mv_X2_seen rc_1 rfl rfl (Nat.le_of_ble_eq_true rfl) (c_X2_seen e (by omega) q2.2 hq3) ?_
      refine z_iadd (pc := 27) dX2_readNumber_27 ?_
      refine z_bipush (pc := 28) dX2_readNumber_28 kb_48 ?_
      refine z_isub (pc := 30) dX2_readNumber_30 ?_
      refine z_istore_n (pc := 31) (i := 1) (ls' := [(1, .int (((v1 * 10) + q3.1) - 48)), (0, .ref 1), (2, .int v2)]) dX2_readNumber_31 rfl (Nat.le_of_ble_eq_true rfl) rfl ?_
      refine z_aload_n (pc := 32) (i := 0) (j := 1) dX2_readNumber_32 rfl rfl ?_
      refine z_dup (pc := 33) dX2_readNumber_33 rfl ?_
      refine z_ogetI (pc := 34) dX2_readNumber_34 lf_RX2_32 sh_1 rfl rfl ?_
      refine z_iconst (pc := 37) dX2_readNumber_37 ki_1 ?_
      refine z_iadd (pc := 38) dX2_readNumber_38 ?_
      obtain ⟨m4, hm4, hf⟩ := Option.bind_eq_some_iff.mp hf
      refine z_oputI (pc := 39) dX2_readNumber_39 lf_RX2_32 sh_1 rfl hm4 ?_
      refine z_iinc (pc := 42) (j := 2) (ls' := [(2, .int (v2 + 1)), (1, .int (((v1 * 10) + q3.1) - 48)), (0, .ref 1)]) dX2_readNumber_42 rfl ki_1 (Nat.le_of_ble_eq_true rfl) rfl ?_
      refine z_goto (pc := 45) (tgt := 4) dX2_readNumber_45 (by decide) ?_
      obtain rfl := Option.some.inj hf
      exact z_pick (ls' := [(0, .ref 1), (1, .int (((v1 * 10) + q3.1) - 48)), (2, .int (v2 + 1))]) [2, 1, 0] rfl (h1 ((((v1 * 10) + q3.1) - 48), (v2 + 1), m4) hK)
def f_X2_readNumber_L4 (v1 : Int32) (v2 : Int32) (m : ej_M) : Option (Int32 × ej_M) := oj_loop (fun q : (Int32 × Int32 × ej_M) => f_X2_readNumber_L4b q.1 q.2.1 q.2.2) oj_FU (v1, v2, m)
set_option maxHeartbeats 4000000 in
set_option maxRecDepth 100000 in
theorem b_X2_readNumber_L4 (e : Nat) (hd : 1 ≤ e) (v1 : Int32) (v2 : Int32) (m : ej_M) {x : (Int32 × ej_M)} {res : Option Value × ej_H} {K : (Int32 × ej_M) → Prop} (hf : f_X2_readNumber_L4 v1 v2 m = some x) (hK : K x) (h0 : ∀ q : (Int32 × ej_M), K q → res = (some (Value.int q.1), (ej_sh, q.2))) : ej_Z cX2_readNumber 3 (some .boolean) RX2 "readNumber" (e + 1) 4 [(0, .ref 1), (1, .int v1), (2, .int v2)] [] (ej_sh, m) res :=
  oj_loop_Z (body := fun q : (Int32 × Int32 × ej_M) => f_X2_readNumber_L4b q.1 q.2.1 q.2.2) (P := fun q : (Int32 × Int32 × ej_M) => ej_Z cX2_readNumber 3 (some .boolean) RX2 "readNumber" (e + 1) 4 [(0, .ref 1), (1, .int q.1), (2, .int q.2.1)] [] (ej_sh, q.2.2) res) (K := K) (fun s x hb hl hr => b_X2_readNumber_L4b e hd  s.1 s.2.1 s.2.2 (K := fun x => (∀ s' : (Int32 × Int32 × ej_M), x = Sum.inl s' → ej_Z cX2_readNumber 3 (some .boolean) RX2 "readNumber" (e + 1) 4 [(0, .ref 1), (1, .int s'.1), (2, .int s'.2.1)] [] (ej_sh, s'.2.2) res) ∧ ∀ e, x = Sum.inr e → K e) hb ⟨hl, hr⟩ (fun q hq => hq.1 q rfl) (fun q hq => h0 q (hq.2 _ rfl))) oj_FU (v1, v2, m) x hf hK
def f_X2_readNumber  (m : ej_M) : Option (Int32 × ej_M) :=
  f_X2_readNumber_L4 0 0 m
set_option maxHeartbeats 4000000 in
set_option maxRecDepth 100000 in
theorem b_X2_readNumber (e : Nat) (hd : 1 ≤ e)  (m : ej_M) {x : (Int32 × ej_M)} {res : Option Value × ej_H} {K : (Int32 × ej_M) → Prop} (hf : f_X2_readNumber  m = some x) (hK : K x) (h0 : ∀ q : (Int32 × ej_M), K q → res = (some (Value.int q.1), (ej_sh, q.2))) : ej_Z cX2_readNumber 3 (some .boolean) RX2 "readNumber" (e + 1) 0 [(0, .ref 1)] [] (ej_sh, m) res := by
  unfold f_X2_readNumber at hf
  refine z_iconst (pc := 0) dX2_readNumber_0 ki_0 ?_
  refine z_istore_n (pc := 1) (i := 1) (ls' := [(1, .int 0), (0, .ref 1)]) dX2_readNumber_1 rfl (Nat.le_of_ble_eq_true rfl) rfl ?_
  refine z_iconst (pc := 2) dX2_readNumber_2 ki_0 ?_
  refine z_istore_n (pc := 3) (i := 2) (ls' := [(2, .int 0), (1, .int 0), (0, .ref 1)]) dX2_readNumber_3 rfl (Nat.le_of_ble_eq_true rfl) rfl ?_
  exact z_pick [2, 1, 0] rfl (b_X2_readNumber_L4 e hd 0 0 m (K := K) hf hK  h0)
set_option maxHeartbeats 4000000 in
set_option maxRecDepth 100000 in
theorem c_X2_readNumber (d : Nat) (hd : 2 ≤ d)  (m : ej_M) {q : (Int32 × ej_M)} (hf : f_X2_readNumber  m = some q) : ej_Ct yX2_readNumber cX2_readNumber 3 (some .boolean) d [.ref 1] (ej_sh, m) ((some (Value.int q.1), (ej_sh, q.2)) : Option Value × ej_H) := by
  obtain ⟨e, rfl⟩ : ∃ e, d = e + 1 := ⟨d - 1, by omega⟩
  exact z_met (by decide +kernel) (Nat.le_of_ble_eq_true rfl) (b_X2_readNumber e (by omega)  m (K := fun z => ((some (Value.int q.1), (ej_sh, q.2)) : Option Value × ej_H) = (some (Value.int z.1), (ej_sh, z.2))) hf rfl (fun _ h => h))
def f_X2_signsOf (v0 : Int32) (m : ej_M) : Option (Nat × ej_M) :=
  if v0 = 0 then
    some ((2004), m)
  else
    if v0 = 1 then
      some ((2005), m)
    else
      if v0 = 2 then
        some ((2006), m)
      else
        if v0 = 3 then
          some ((2007), m)
        else
          some ((2008), m)
set_option maxHeartbeats 4000000 in
set_option maxRecDepth 100000 in
theorem b_X2_signsOf (d : Nat) (v0 : Int32) (m : ej_M) {x : (Nat × ej_M)} {res : Option Value × ej_H} {K : (Nat × ej_M) → Prop} (hf : f_X2_signsOf v0 m = some x) (hK : K x) (h0 : ∀ q : (Nat × ej_M), K q → res = (some (Value.ref q.1), (ej_sh, q.2))) : ej_Z cX2_signsOf 1 (some (.object "java/lang/String")) RX2 "signsOf" d 0 [(0, .int v0)] [] (ej_sh, m) res := by
  unfold f_X2_signsOf at hf
  refine z_iload_n (pc := 0) (i := 0) (j := 0) dX2_signsOf_0 rfl rfl ?_
  by_cases hs0 : v0 = 0
  · rw [if_pos hs0] at hf
    refine z_tabIn (pc := 1) (off := 31) (tgt := 32) dX2_signsOf_1 (by rw [hs0]; decide) (by rw [hs0]; decide) (by rw [hs0]; rfl) (by decide) ?_
    refine z_ldcS (pc := 32) (i := 4) (tx := "|") dX2_signsOf_32 (by decide +kernel) ?_
    obtain rfl := Option.some.inj hf
    rw [h0 _ hK]
    exact z_aret dX2_signsOf_34 rfl
  · rw [if_neg hs0] at hf
    by_cases hs1 : v0 = 1
    · rw [if_pos hs1] at hf
      refine z_tabIn (pc := 1) (off := 34) (tgt := 35) dX2_signsOf_1 (by rw [hs1]; decide) (by rw [hs1]; decide) (by rw [hs1]; rfl) (by decide) ?_
      refine z_ldcS (pc := 35) (i := 5) (tx := "&") dX2_signsOf_35 (by decide +kernel) ?_
      obtain rfl := Option.some.inj hf
      rw [h0 _ hK]
      exact z_aret dX2_signsOf_37 rfl
    · rw [if_neg hs1] at hf
      by_cases hs2 : v0 = 2
      · rw [if_pos hs2] at hf
        refine z_tabIn (pc := 1) (off := 37) (tgt := 38) dX2_signsOf_1 (by rw [hs2]; decide) (by rw [hs2]; decide) (by rw [hs2]; rfl) (by decide) ?_
        refine z_ldcS (pc := 38) (i := 6) (tx := "<=>") dX2_signsOf_38 (by decide +kernel) ?_
        obtain rfl := Option.some.inj hf
        rw [h0 _ hK]
        exact z_aret dX2_signsOf_40 rfl
      · rw [if_neg hs2] at hf
        by_cases hs3 : v0 = 3
        · rw [if_pos hs3] at hf
          refine z_tabIn (pc := 1) (off := 40) (tgt := 41) dX2_signsOf_1 (by rw [hs3]; decide) (by rw [hs3]; decide) (by rw [hs3]; rfl) (by decide) ?_
          refine z_ldcS (pc := 41) (i := 7) (tx := "+-") dX2_signsOf_41 (by decide +kernel) ?_
          obtain rfl := Option.some.inj hf
          rw [h0 _ hK]
          exact z_aret dX2_signsOf_43 rfl
        · rw [if_neg hs3] at hf
          refine z_tabD (pc := 1) (tgt := 44) dX2_signsOf_1 (by decide) (fun k hk => ?_) (by decide) ?_
          · have hk9 : k = 0 ∨ k = 1 ∨ k = 2 ∨ k = 3 := by have hk8 : k < 4 := hk; omega
            rcases hk9 with rfl | rfl | rfl | rfl
            · exact Or.inr (by have := lv_neT hs0 (show (0 : Int32).toInt = 0 by decide); omega)
            · exact Or.inr (by have := lv_neT hs1 (show (1 : Int32).toInt = 1 by decide); omega)
            · exact Or.inr (by have := lv_neT hs2 (show (2 : Int32).toInt = 2 by decide); omega)
            · exact Or.inr (by have := lv_neT hs3 (show (3 : Int32).toInt = 3 by decide); omega)
          refine z_ldcS (pc := 44) (i := 8) (tx := "*/%") dX2_signsOf_44 (by decide +kernel) ?_
          obtain rfl := Option.some.inj hf
          rw [h0 _ hK]
          exact z_aret dX2_signsOf_46 rfl
set_option maxHeartbeats 4000000 in
set_option maxRecDepth 100000 in
theorem c_X2_signsOf (d : Nat) (hd : 0 ≤ d) (v0 : Int32) (m : ej_M) {q : (Nat × ej_M)} (hf : f_X2_signsOf v0 m = some q) : ej_Ct yX2_signsOf cX2_signsOf 1 (some (.object "java/lang/String")) d [.int v0] (ej_sh, m) ((some (Value.ref q.1), (ej_sh, q.2)) : Option Value × ej_H) := by
  exact z_met (by decide +kernel) (Nat.le_of_ble_eq_true rfl) (b_X2_signsOf d v0 m (K := fun z => ((some (Value.ref q.1), (ej_sh, q.2)) : Option Value × ej_H) = (some (Value.ref z.1), (ej_sh, z.2))) hf rfl (fun _ h => h))
def Q_X2_readLevel (Rf : (Int32 → Int32 → ej_M → Option (Int32 × ej_M)) × (Int32 → ej_M → Option (Int32 × ej_M))) (e : Nat) : Prop := (∀ (v1 : Int32) (v2 : Int32) (m : ej_M) (q : (Int32 × ej_M)), Rf.1 v1 v2 m = some q → ej_Ct yX2_readLevel cX2_readLevel 6 (some .boolean) e [.ref 1, .int v1, .int v2] (ej_sh, m) (some (Value.int q.1), (ej_sh, q.2))) ∧ (∀ (v1 : Int32) (m : ej_M) (q : (Int32 × ej_M)), Rf.2 v1 m = some q → ej_Ct yX2_readSingle cX2_readSingle 4 (some .boolean) e [.ref 1, .int v1] (ej_sh, m) (some (Value.int q.1), (ej_sh, q.2)))
def f_X2_readLevel_L39b (Rf : ((Int32 → Int32 → ej_M → Option (Int32 × ej_M)) × (Int32 → ej_M → Option (Int32 × ej_M)))) (v1 : Int32) (v2 : Int32) (v3 : Int32) (v4 : Int32) (m : ej_M) : Option ((Int32 × ej_M) ⊕ (Int32 × ej_M)) :=
  if v3 ≤ v4 then
    some (Sum.inr (1, m))
  else
    (f_X2_signsOf v1 m).bind fun q1 =>
    (f_X2_passed q1.1 q1.2).bind fun q2 =>
    if q2.1 = 0 then
      some (Sum.inr (1, q2.2))
    else
      (Rf.1 (v1 + 1) v2 q2.2).bind fun q3 =>
      if q3.1 = 0 then
        some (Sum.inr (0, q3.2))
      else
        (f_X2_emit (-q2.1) q3.2).bind fun q4 =>
        some (Sum.inl ((v4 + 1), q4.2))
set_option maxHeartbeats 4000000 in
set_option maxRecDepth 100000 in
theorem b_X2_readLevel_L39b (e : Nat) (hd : 4 ≤ e) (Rf : ((Int32 → Int32 → ej_M → Option (Int32 × ej_M)) × (Int32 → ej_M → Option (Int32 × ej_M)))) (hR : Q_X2_readLevel Rf e) (v1 : Int32) (v2 : Int32) (v3 : Int32) (v4 : Int32) (m : ej_M) {x : ((Int32 × ej_M) ⊕ (Int32 × ej_M))} {res : Option Value × ej_H} {K : ((Int32 × ej_M) ⊕ (Int32 × ej_M)) → Prop} (hf : f_X2_readLevel_L39b Rf v1 v2 v3 v4 m = some x) (hK : K x) (h1 : ∀ q : (Int32 × ej_M), K (Sum.inl q) → ej_Z cX2_readLevel 6 (some .boolean) RX2 "readLevel" (e + 1) 39 [(0, .ref 1), (1, .int v1), (2, .int v2), (3, .int v3), (4, .int q.1)] [] (ej_sh, q.2) res) (h0 : ∀ q : (Int32 × ej_M), K (Sum.inr q) → res = (some (Value.int q.1), (ej_sh, q.2))) : ej_Z cX2_readLevel 6 (some .boolean) RX2 "readLevel" (e + 1) 39 [(0, .ref 1), (1, .int v1), (2, .int v2), (3, .int v3), (4, .int v4)] [] (ej_sh, m) res := by
  unfold f_X2_readLevel_L39b at hf
  refine z_iload (pc := 39) (i := 4) (j := 4) dX2_readLevel_39 rfl ?_
  refine z_iload_n (pc := 41) (i := 3) (j := 3) dX2_readLevel_41 rfl rfl ?_
  refine z_icmp_ge (pc := 42) (tgt := 88) dX2_readLevel_42 (by decide) (fun hc => ?_) (fun hc => ?_)
  · rw [if_pos hc] at hf
    refine z_iconst (pc := 88) dX2_readLevel_88 ki_1 ?_
    obtain rfl := Option.some.inj hf
    rw [h0 _ hK]
    exact z_iret dX2_readLevel_89 rfl rfl
  · rw [if_neg hc] at hf
    refine z_aload_n (pc := 45) (i := 0) (j := 0) dX2_readLevel_45 rfl rfl ?_
    refine z_iload_n (pc := 46) (i := 1) (j := 1) dX2_readLevel_46 rfl rfl ?_
    obtain ⟨q1, hq1, hf⟩ := Option.bind_eq_some_iff.mp hf
    refine z_oSr (pc := 47) (as := [.int v1]) (rest := [.ref 1]) dX2_readLevel_47 lm_RX2_69 mf_X2_signsOf ms_X2_signsOf rfl rfl (Nat.le_of_ble_eq_true rfl) (c_X2_signsOf e (by omega) v1 m hq1) ?_
    obtain ⟨q2, hq2, hf⟩ := Option.bind_eq_some_iff.mp hf
    refine z_oVi (pc := 50) (as := [.ref q1.1]) (rest := []) dX2_readLevel_50 lm_RX2_44 mf_X2_passed mi_X2_passed mv_X2_passed rc_1 rfl rfl (Nat.le_of_ble_eq_true rfl) (c_X2_passed e (by omega) q1.1 q1.2 hq2) ?_
    refine z_istore (pc := 53) (i := 5) (ls' := [(5, .int q2.1), (0, .ref 1), (1, .int v1), (2, .int v2), (3, .int v3), (4, .int v4)]) dX2_readLevel_53 (Nat.le_of_ble_eq_true rfl) rfl ?_
    refine z_iload (pc := 55) (i := 5) (j := 0) dX2_readLevel_55 rfl ?_
    refine z_if_ne (pc := 57) (tgt := 62) dX2_readLevel_57 (by decide) (fun hc => ?_) (fun hc => ?_)
    · rw [if_neg hc] at hf
      refine z_aload_n (pc := 62) (i := 0) (j := 1) dX2_readLevel_62 rfl rfl ?_
      refine z_iload_n (pc := 63) (i := 1) (j := 2) dX2_readLevel_63 rfl rfl ?_
      refine z_iconst (pc := 64) dX2_readLevel_64 ki_1 ?_
      refine z_iadd (pc := 65) dX2_readLevel_65 ?_
      refine z_iload_n (pc := 66) (i := 2) (j := 3) dX2_readLevel_66 rfl rfl ?_
      obtain ⟨q3, hq3, hf⟩ := Option.bind_eq_some_iff.mp hf
      refine z_oVi (pc := 67) (as := [.int (v1 + 1), .int v2]) (rest := []) dX2_readLevel_67 lm_RX2_55 mf_X2_readLevel mi_X2_readLevel mv_X2_readLevel rc_1 rfl rfl (Nat.le_of_ble_eq_true rfl) (hR.1 _ _ _ _ hq3) ?_
      refine z_if_ne (pc := 70) (tgt := 75) dX2_readLevel_70 (by decide) (fun hc => ?_) (fun hc => ?_)
      · rw [if_neg hc] at hf
        refine z_aload_n (pc := 75) (i := 0) (j := 1) dX2_readLevel_75 rfl rfl ?_
        refine z_iload (pc := 76) (i := 5) (j := 0) dX2_readLevel_76 rfl ?_
        refine z_ineg (pc := 78) dX2_readLevel_78 ?_
        obtain ⟨q4, hq4, hf⟩ := Option.bind_eq_some_iff.mp hf
        refine z_oVv (pc := 79) (as := [.int (-q2.1)]) (rest := []) dX2_readLevel_79 lm_RX2_61 mf_X2_emit mi_X2_emit mv_X2_emit rc_1 rfl rfl (Nat.le_of_ble_eq_true rfl) (c_X2_emit e (by omega) (-q2.1) q3.2 hq4) ?_
        refine z_iinc (pc := 82) (j := 5) (ls' := [(4, .int (v4 + 1)), (5, .int q2.1), (0, .ref 1), (1, .int v1), (2, .int v2), (3, .int v3)]) dX2_readLevel_82 rfl ki_1 (Nat.le_of_ble_eq_true rfl) rfl ?_
        refine z_goto (pc := 85) (tgt := 39) dX2_readLevel_85 (by decide) ?_
        obtain rfl := Option.some.inj hf
        exact z_pick (ls' := [(0, .ref 1), (1, .int v1), (2, .int v2), (3, .int v3), (4, .int (v4 + 1))]) [2, 3, 4, 5, 0] rfl (h1 ((v4 + 1), q4.2) hK)
      · rw [if_pos hc] at hf
        refine z_iconst (pc := 73) dX2_readLevel_73 ki_0 ?_
        obtain rfl := Option.some.inj hf
        rw [h0 _ hK]
        exact z_iret dX2_readLevel_74 rfl rfl
    · rw [if_pos hc] at hf
      refine z_iconst (pc := 60) dX2_readLevel_60 ki_1 ?_
      obtain rfl := Option.some.inj hf
      rw [h0 _ hK]
      exact z_iret dX2_readLevel_61 rfl rfl
def f_X2_readLevel_L39 (Rf : ((Int32 → Int32 → ej_M → Option (Int32 × ej_M)) × (Int32 → ej_M → Option (Int32 × ej_M)))) (v1 : Int32) (v2 : Int32) (v3 : Int32) (v4 : Int32) (m : ej_M) : Option (Int32 × ej_M) := oj_loop (fun q : (Int32 × ej_M) => f_X2_readLevel_L39b Rf v1 v2 v3 q.1 q.2) oj_FU (v4, m)
set_option maxHeartbeats 4000000 in
set_option maxRecDepth 100000 in
theorem b_X2_readLevel_L39 (e : Nat) (hd : 4 ≤ e) (Rf : ((Int32 → Int32 → ej_M → Option (Int32 × ej_M)) × (Int32 → ej_M → Option (Int32 × ej_M)))) (hR : Q_X2_readLevel Rf e) (v1 : Int32) (v2 : Int32) (v3 : Int32) (v4 : Int32) (m : ej_M) {x : (Int32 × ej_M)} {res : Option Value × ej_H} {K : (Int32 × ej_M) → Prop} (hf : f_X2_readLevel_L39 Rf v1 v2 v3 v4 m = some x) (hK : K x) (h0 : ∀ q : (Int32 × ej_M), K q → res = (some (Value.int q.1), (ej_sh, q.2))) : ej_Z cX2_readLevel 6 (some .boolean) RX2 "readLevel" (e + 1) 39 [(0, .ref 1), (1, .int v1), (2, .int v2), (3, .int v3), (4, .int v4)] [] (ej_sh, m) res :=
  oj_loop_Z (body := fun q : (Int32 × ej_M) => f_X2_readLevel_L39b Rf v1 v2 v3 q.1 q.2) (P := fun q : (Int32 × ej_M) => ej_Z cX2_readLevel 6 (some .boolean) RX2 "readLevel" (e + 1) 39 [(0, .ref 1), (1, .int v1), (2, .int v2), (3, .int v3), (4, .int q.1)] [] (ej_sh, q.2) res) (K := K) (fun s x hb hl hr => b_X2_readLevel_L39b e hd Rf hR v1 v2 v3  s.1 s.2 (K := fun x => (∀ s' : (Int32 × ej_M), x = Sum.inl s' → ej_Z cX2_readLevel 6 (some .boolean) RX2 "readLevel" (e + 1) 39 [(0, .ref 1), (1, .int v1), (2, .int v2), (3, .int v3), (4, .int s'.1)] [] (ej_sh, s'.2) res) ∧ ∀ e, x = Sum.inr e → K e) hb ⟨hl, hr⟩ (fun q hq => hq.1 q rfl) (fun q hq => h0 q (hq.2 _ rfl))) oj_FU (v4, m) x hf hK
def f_X2_readLevel_e (Rf : ((Int32 → Int32 → ej_M → Option (Int32 × ej_M)) × (Int32 → ej_M → Option (Int32 × ej_M)))) (v1 : Int32) (v2 : Int32) (m : ej_M) : Option (Int32 × ej_M) :=
  if v1 < 5 then
    (Rf.1 (v1 + 1) v2 m).bind fun q1 =>
    if q1.1 = 0 then
      some (0, q1.2)
    else
      if v1 = 2 then
        f_X2_readLevel_L39 Rf v1 v2 1 0 q1.2
      else
        f_X2_readLevel_L39 Rf v1 v2 120 0 q1.2
  else
    (Rf.2 v2 m).bind fun q2 =>
    oj_rz q2.1 q2.2
set_option maxHeartbeats 4000000 in
set_option maxRecDepth 100000 in
theorem b_X2_readLevel_e (e : Nat) (hd : 4 ≤ e) (Rf : ((Int32 → Int32 → ej_M → Option (Int32 × ej_M)) × (Int32 → ej_M → Option (Int32 × ej_M)))) (hR : Q_X2_readLevel Rf e) (v1 : Int32) (v2 : Int32) (m : ej_M) {x : (Int32 × ej_M)} {res : Option Value × ej_H} {K : (Int32 × ej_M) → Prop} (hf : f_X2_readLevel_e Rf v1 v2 m = some x) (hK : K x) (h0 : ∀ q : (Int32 × ej_M), K q → res = (some (Value.int q.1), (ej_sh, q.2))) : ej_Z cX2_readLevel 6 (some .boolean) RX2 "readLevel" (e + 1) 0 [(0, .ref 1), (1, .int v1), (2, .int v2)] [] (ej_sh, m) res := by
  unfold f_X2_readLevel_e at hf
  refine z_iload_n (pc := 0) (i := 1) (j := 1) dX2_readLevel_0 rfl rfl ?_
  refine z_iconst (pc := 1) dX2_readLevel_1 ki_5 ?_
  refine z_icmp_lt (pc := 2) (tgt := 11) dX2_readLevel_2 (by decide) (fun hc => ?_) (fun hc => ?_)
  · rw [if_pos hc] at hf
    refine z_aload_n (pc := 11) (i := 0) (j := 0) dX2_readLevel_11 rfl rfl ?_
    refine z_iload_n (pc := 12) (i := 1) (j := 1) dX2_readLevel_12 rfl rfl ?_
    refine z_iconst (pc := 13) dX2_readLevel_13 ki_1 ?_
    refine z_iadd (pc := 14) dX2_readLevel_14 ?_
    refine z_iload_n (pc := 15) (i := 2) (j := 2) dX2_readLevel_15 rfl rfl ?_
    obtain ⟨q1, hq1, hf⟩ := Option.bind_eq_some_iff.mp hf
    refine z_oVi (pc := 16) (as := [.int (v1 + 1), .int v2]) (rest := []) dX2_readLevel_16 lm_RX2_55 mf_X2_readLevel mi_X2_readLevel mv_X2_readLevel rc_1 rfl rfl (Nat.le_of_ble_eq_true rfl) (hR.1 _ _ _ _ hq1) ?_
    refine z_if_ne (pc := 19) (tgt := 24) dX2_readLevel_19 (by decide) (fun hc => ?_) (fun hc => ?_)
    · rw [if_neg hc] at hf
      refine z_iload_n (pc := 24) (i := 1) (j := 1) dX2_readLevel_24 rfl rfl ?_
      refine z_iconst (pc := 25) dX2_readLevel_25 ki_2 ?_
      refine z_icmp_ne (pc := 26) (tgt := 33) dX2_readLevel_26 (by decide) (fun hc => ?_) (fun hc => ?_)
      · rw [if_neg hc] at hf
        refine z_bipush (pc := 33) dX2_readLevel_33 kb_120 ?_
        refine z_istore_n (pc := 35) (i := 3) (ls' := [(3, .int 120), (0, .ref 1), (1, .int v1), (2, .int v2)]) dX2_readLevel_35 rfl (Nat.le_of_ble_eq_true rfl) rfl ?_
        refine z_iconst (pc := 36) dX2_readLevel_36 ki_0 ?_
        refine z_istore (pc := 37) (i := 4) (ls' := [(4, .int 0), (3, .int 120), (0, .ref 1), (1, .int v1), (2, .int v2)]) dX2_readLevel_37 (Nat.le_of_ble_eq_true rfl) rfl ?_
        exact z_pick [2, 3, 4, 1, 0] rfl (b_X2_readLevel_L39 e hd Rf hR v1 v2 120 0 q1.2 (K := K) hf hK  h0)
      · rw [if_pos hc] at hf
        refine z_iconst (pc := 29) dX2_readLevel_29 ki_1 ?_
        refine z_goto (pc := 30) (tgt := 35) dX2_readLevel_30 (by decide) ?_
        refine z_istore_n (pc := 35) (i := 3) (ls' := [(3, .int 1), (0, .ref 1), (1, .int v1), (2, .int v2)]) dX2_readLevel_35 rfl (Nat.le_of_ble_eq_true rfl) rfl ?_
        refine z_iconst (pc := 36) dX2_readLevel_36 ki_0 ?_
        refine z_istore (pc := 37) (i := 4) (ls' := [(4, .int 0), (3, .int 1), (0, .ref 1), (1, .int v1), (2, .int v2)]) dX2_readLevel_37 (Nat.le_of_ble_eq_true rfl) rfl ?_
        exact z_pick [2, 3, 4, 1, 0] rfl (b_X2_readLevel_L39 e hd Rf hR v1 v2 1 0 q1.2 (K := K) hf hK  h0)
    · rw [if_pos hc] at hf
      refine z_iconst (pc := 22) dX2_readLevel_22 ki_0 ?_
      obtain rfl := Option.some.inj hf
      rw [h0 _ hK]
      exact z_iret dX2_readLevel_23 rfl rfl
  · rw [if_neg hc] at hf
    refine z_aload_n (pc := 5) (i := 0) (j := 0) dX2_readLevel_5 rfl rfl ?_
    refine z_iload_n (pc := 6) (i := 2) (j := 2) dX2_readLevel_6 rfl rfl ?_
    obtain ⟨q2, hq2, hf⟩ := Option.bind_eq_some_iff.mp hf
    refine z_oVi (pc := 7) (as := [.int v2]) (rest := []) dX2_readLevel_7 lm_RX2_65 mf_X2_readSingle mi_X2_readSingle mv_X2_readSingle rc_1 rfl rfl (Nat.le_of_ble_eq_true rfl) (hR.2 _ _ _ hq2) ?_
    rw [h0 _ hK]
    exact z_oretz dX2_readLevel_10 rfl hf
def f_X2_readSingle_B121 (Rf : ((Int32 → Int32 → ej_M → Option (Int32 × ej_M)) × (Int32 → ej_M → Option (Int32 × ej_M)))) (s0 : Int32) (m : ej_M) : Option (Int32 × ej_M) :=
  (f_X2_emit s0 m).bind fun q1 =>
  some (1, q1.2)
set_option maxHeartbeats 4000000 in
set_option maxRecDepth 100000 in
theorem b_X2_readSingle_B121 (e : Nat) (hd : 4 ≤ e) (Rf : ((Int32 → Int32 → ej_M → Option (Int32 × ej_M)) × (Int32 → ej_M → Option (Int32 × ej_M)))) (hR : Q_X2_readLevel Rf e) (s0 : Int32) (m : ej_M) {x : (Int32 × ej_M)} {res : Option Value × ej_H} {K : (Int32 × ej_M) → Prop} (hf : f_X2_readSingle_B121 Rf s0 m = some x) (hK : K x) (h0 : ∀ q : (Int32 × ej_M), K q → res = (some (Value.int q.1), (ej_sh, q.2))) : ej_Z cX2_readSingle 4 (some .boolean) RX2 "readSingle" (e + 1) 121 [] [.int s0, .ref 1] (ej_sh, m) res := by
  unfold f_X2_readSingle_B121 at hf
  obtain ⟨q1, hq1, hf⟩ := Option.bind_eq_some_iff.mp hf
  refine z_oVv (pc := 121) (as := [.int s0]) (rest := []) dX2_readSingle_121 lm_RX2_61 mf_X2_emit mi_X2_emit mv_X2_emit rc_1 rfl rfl (Nat.le_of_ble_eq_true rfl) (c_X2_emit e (by omega) s0 m hq1) ?_
  refine z_iconst (pc := 124) dX2_readSingle_124 ki_1 ?_
  obtain rfl := Option.some.inj hf
  rw [h0 _ hK]
  exact z_iret dX2_readSingle_125 rfl rfl
def f_X2_readSingle_e (Rf : ((Int32 → Int32 → ej_M → Option (Int32 × ej_M)) × (Int32 → ej_M → Option (Int32 × ej_M)))) (v1 : Int32) (m : ej_M) : Option (Int32 × ej_M) :=
  (f_X2_seen m).bind fun q1 =>
  (f_X2_isDigit q1.1 q1.2).bind fun q2 =>
  if q2.1 = 0 then
    (f_X2_passed (2000) q2.2).bind fun q3 =>
    if q3.1 = 0 then
      if v1 < 6 then
        (f_X2_passed (2001) q3.2).bind fun q4 =>
        if q4.1 = 0 then
          (f_X2_passed (2003) q4.2).bind fun q5 =>
          if q5.1 = 0 then
            some (0, q5.2)
          else
            (Rf.2 (v1 + 1) q5.2).bind fun q6 =>
            if q6.1 = 0 then
              some (0, q6.2)
            else
              if q5.1 = 33 then
                f_X2_readSingle_B121 Rf (-33) q6.2
              else
                f_X2_readSingle_B121 Rf (-126) q6.2
        else
          (Rf.1 0 (v1 + 1) q4.2).bind fun q7 =>
          if q7.1 = 0 then
            some (0, q7.2)
          else
            (f_X2_passed (2002) q7.2).bind fun q8 =>
            if q8.1 = 0 then
              some (0, q8.2)
            else
              some (1, q8.2)
      else
        some (0, q3.2)
    else
      (oj_sv (2000)).bind fun w9 =>
      (f_J0_indexOf_0f7a4 (2000) ((Int32.toUInt32 q3.1 % 65536).toInt32) q3.2).bind fun q10 =>
      (f_X2_emit ((-1) - q10.1) q10.2).bind fun q11 =>
      some (1, q11.2)
  else
    (f_X2_readNumber q2.2).bind fun q12 =>
    oj_rz q12.1 q12.2
set_option maxHeartbeats 4000000 in
set_option maxRecDepth 100000 in
theorem b_X2_readSingle_e (e : Nat) (hd : 4 ≤ e) (Rf : ((Int32 → Int32 → ej_M → Option (Int32 × ej_M)) × (Int32 → ej_M → Option (Int32 × ej_M)))) (hR : Q_X2_readLevel Rf e) (v1 : Int32) (m : ej_M) {x : (Int32 × ej_M)} {res : Option Value × ej_H} {K : (Int32 × ej_M) → Prop} (hf : f_X2_readSingle_e Rf v1 m = some x) (hK : K x) (h0 : ∀ q : (Int32 × ej_M), K q → res = (some (Value.int q.1), (ej_sh, q.2))) : ej_Z cX2_readSingle 4 (some .boolean) RX2 "readSingle" (e + 1) 0 [(0, .ref 1), (1, .int v1)] [] (ej_sh, m) res := by
  unfold f_X2_readSingle_e at hf
  refine z_aload_n (pc := 0) (i := 0) (j := 0) dX2_readSingle_0 rfl rfl ?_
  obtain ⟨q1, hq1, hf⟩ := Option.bind_eq_some_iff.mp hf
  refine z_oVi (pc := 1) (as := []) (rest := []) dX2_readSingle_1 lm_RX2_83 mf_X2_seen mi_X2_seen mv_X2_seen rc_1 rfl rfl (Nat.le_of_ble_eq_true rfl) (c_X2_seen e (by omega) m hq1) ?_
  obtain ⟨q2, hq2, hf⟩ := Option.bind_eq_some_iff.mp hf
  refine z_oSi (pc := 4) (as := [.int q1.1]) (rest := []) dX2_readSingle_4 lm_RX2_87 mf_X2_isDigit ms_X2_isDigit rfl rfl (Nat.le_of_ble_eq_true rfl) (c_X2_isDigit e (by omega) q1.1 q1.2 hq2) ?_
  refine z_if_eq (pc := 7) (tgt := 15) dX2_readSingle_7 (by decide) (fun hc => ?_) (fun hc => ?_)
  · rw [if_pos hc] at hf
    refine z_aload_n (pc := 15) (i := 0) (j := 0) dX2_readSingle_15 rfl rfl ?_
    refine z_ldcS (pc := 16) (i := 0) (tx := "wlrkns") dX2_readSingle_16 (by decide +kernel) ?_
    obtain ⟨q3, hq3, hf⟩ := Option.bind_eq_some_iff.mp hf
    refine z_oVi (pc := 18) (as := [.ref (2000)]) (rest := []) dX2_readSingle_18 lm_RX2_44 mf_X2_passed mi_X2_passed mv_X2_passed rc_1 rfl rfl (Nat.le_of_ble_eq_true rfl) (c_X2_passed e (by omega) (2000) q2.2 hq3) ?_
    refine z_istore_n (pc := 21) (i := 2) (ls' := [(2, .int q3.1), (0, .ref 1), (1, .int v1)]) dX2_readSingle_21 rfl (Nat.le_of_ble_eq_true rfl) rfl ?_
    refine z_iload_n (pc := 22) (i := 2) (j := 0) dX2_readSingle_22 rfl rfl ?_
    refine z_if_eq (pc := 23) (tgt := 41) dX2_readSingle_23 (by decide) (fun hc => ?_) (fun hc => ?_)
    · rw [if_pos hc] at hf
      refine z_iload_n (pc := 41) (i := 1) (j := 2) dX2_readSingle_41 rfl rfl ?_
      refine z_bipush (pc := 42) dX2_readSingle_42 kb_6 ?_
      refine z_icmp_lt (pc := 44) (tgt := 49) dX2_readSingle_44 (by decide) (fun hc => ?_) (fun hc => ?_)
      · rw [if_pos hc] at hf
        refine z_aload_n (pc := 49) (i := 0) (j := 1) dX2_readSingle_49 rfl rfl ?_
        refine z_ldcS (pc := 50) (i := 1) (tx := "(") dX2_readSingle_50 (by decide +kernel) ?_
        obtain ⟨q4, hq4, hf⟩ := Option.bind_eq_some_iff.mp hf
        refine z_oVi (pc := 52) (as := [.ref (2001)]) (rest := []) dX2_readSingle_52 lm_RX2_44 mf_X2_passed mi_X2_passed mv_X2_passed rc_1 rfl rfl (Nat.le_of_ble_eq_true rfl) (c_X2_passed e (by omega) (2001) q3.2 hq4) ?_
        refine z_if_eq (pc := 55) (tgt := 84) dX2_readSingle_55 (by decide) (fun hc => ?_) (fun hc => ?_)
        · rw [if_pos hc] at hf
          refine z_aload_n (pc := 84) (i := 0) (j := 1) dX2_readSingle_84 rfl rfl ?_
          refine z_ldcS (pc := 85) (i := 3) (tx := "!-") dX2_readSingle_85 (by decide +kernel) ?_
          obtain ⟨q5, hq5, hf⟩ := Option.bind_eq_some_iff.mp hf
          refine z_oVi (pc := 87) (as := [.ref (2003)]) (rest := []) dX2_readSingle_87 lm_RX2_44 mf_X2_passed mi_X2_passed mv_X2_passed rc_1 rfl rfl (Nat.le_of_ble_eq_true rfl) (c_X2_passed e (by omega) (2003) q4.2 hq5) ?_
          refine z_istore_n (pc := 90) (i := 3) (ls' := [(3, .int q5.1), (2, .int q3.1), (0, .ref 1), (1, .int v1)]) dX2_readSingle_90 rfl (Nat.le_of_ble_eq_true rfl) rfl ?_
          refine z_iload_n (pc := 91) (i := 3) (j := 0) dX2_readSingle_91 rfl rfl ?_
          refine z_if_eq (pc := 92) (tgt := 105) dX2_readSingle_92 (by decide) (fun hc => ?_) (fun hc => ?_)
          · rw [if_pos hc] at hf
            refine z_iconst (pc := 105) dX2_readSingle_105 ki_0 ?_
            obtain rfl := Option.some.inj hf
            rw [h0 _ hK]
            exact z_iret dX2_readSingle_106 rfl rfl
          · rw [if_neg hc] at hf
            refine z_aload_n (pc := 95) (i := 0) (j := 2) dX2_readSingle_95 rfl rfl ?_
            refine z_iload_n (pc := 96) (i := 1) (j := 3) dX2_readSingle_96 rfl rfl ?_
            refine z_iconst (pc := 97) dX2_readSingle_97 ki_1 ?_
            refine z_iadd (pc := 98) dX2_readSingle_98 ?_
            obtain ⟨q6, hq6, hf⟩ := Option.bind_eq_some_iff.mp hf
            refine z_oVi (pc := 99) (as := [.int (v1 + 1)]) (rest := []) dX2_readSingle_99 lm_RX2_65 mf_X2_readSingle mi_X2_readSingle mv_X2_readSingle rc_1 rfl rfl (Nat.le_of_ble_eq_true rfl) (hR.2 _ _ _ hq6) ?_
            refine z_if_ne (pc := 102) (tgt := 107) dX2_readSingle_102 (by decide) (fun hc => ?_) (fun hc => ?_)
            · rw [if_neg hc] at hf
              refine z_aload_n (pc := 107) (i := 0) (j := 2) dX2_readSingle_107 rfl rfl ?_
              refine z_iload_n (pc := 108) (i := 3) (j := 0) dX2_readSingle_108 rfl rfl ?_
              refine z_bipush (pc := 109) dX2_readSingle_109 kb_33 ?_
              refine z_icmp_ne (pc := 111) (tgt := 119) dX2_readSingle_111 (by decide) (fun hc => ?_) (fun hc => ?_)
              · rw [if_neg hc] at hf
                refine z_bipush (pc := 119) dX2_readSingle_119 kb_n126 ?_
                exact z_pick [] rfl (b_X2_readSingle_B121 e hd Rf hR (-126) q6.2 (K := K) hf hK  h0)
              · rw [if_pos hc] at hf
                refine z_bipush (pc := 114) dX2_readSingle_114 kb_n33 ?_
                refine z_goto (pc := 116) (tgt := 121) dX2_readSingle_116 (by decide) ?_
                exact z_pick [] rfl (b_X2_readSingle_B121 e hd Rf hR (-33) q6.2 (K := K) hf hK  h0)
            · rw [if_pos hc] at hf
              refine z_iconst (pc := 105) dX2_readSingle_105 ki_0 ?_
              obtain rfl := Option.some.inj hf
              rw [h0 _ hK]
              exact z_iret dX2_readSingle_106 rfl rfl
        · rw [if_neg hc] at hf
          refine z_aload_n (pc := 58) (i := 0) (j := 1) dX2_readSingle_58 rfl rfl ?_
          refine z_iconst (pc := 59) dX2_readSingle_59 ki_0 ?_
          refine z_iload_n (pc := 60) (i := 1) (j := 2) dX2_readSingle_60 rfl rfl ?_
          refine z_iconst (pc := 61) dX2_readSingle_61 ki_1 ?_
          refine z_iadd (pc := 62) dX2_readSingle_62 ?_
          obtain ⟨q7, hq7, hf⟩ := Option.bind_eq_some_iff.mp hf
          refine z_oVi (pc := 63) (as := [.int 0, .int (v1 + 1)]) (rest := []) dX2_readSingle_63 lm_RX2_55 mf_X2_readLevel mi_X2_readLevel mv_X2_readLevel rc_1 rfl rfl (Nat.le_of_ble_eq_true rfl) (hR.1 _ _ _ _ hq7) ?_
          refine z_if_eq (pc := 66) (tgt := 82) dX2_readSingle_66 (by decide) (fun hc => ?_) (fun hc => ?_)
          · rw [if_pos hc] at hf
            refine z_iconst (pc := 82) dX2_readSingle_82 ki_0 ?_
            obtain rfl := Option.some.inj hf
            rw [h0 _ hK]
            exact z_iret dX2_readSingle_83 rfl rfl
          · rw [if_neg hc] at hf
            refine z_aload_n (pc := 69) (i := 0) (j := 1) dX2_readSingle_69 rfl rfl ?_
            refine z_ldcS (pc := 70) (i := 2) (tx := ")") dX2_readSingle_70 (by decide +kernel) ?_
            obtain ⟨q8, hq8, hf⟩ := Option.bind_eq_some_iff.mp hf
            refine z_oVi (pc := 72) (as := [.ref (2002)]) (rest := []) dX2_readSingle_72 lm_RX2_44 mf_X2_passed mi_X2_passed mv_X2_passed rc_1 rfl rfl (Nat.le_of_ble_eq_true rfl) (c_X2_passed e (by omega) (2002) q7.2 hq8) ?_
            refine z_if_eq (pc := 75) (tgt := 82) dX2_readSingle_75 (by decide) (fun hc => ?_) (fun hc => ?_)
            · rw [if_pos hc] at hf
              refine z_iconst (pc := 82) dX2_readSingle_82 ki_0 ?_
              obtain rfl := Option.some.inj hf
              rw [h0 _ hK]
              exact z_iret dX2_readSingle_83 rfl rfl
            · rw [if_neg hc] at hf
              refine z_iconst (pc := 78) dX2_readSingle_78 ki_1 ?_
              refine z_goto (pc := 79) (tgt := 83) dX2_readSingle_79 (by decide) ?_
              obtain rfl := Option.some.inj hf
              rw [h0 _ hK]
              exact z_iret dX2_readSingle_83 rfl rfl
      · rw [if_neg hc] at hf
        refine z_iconst (pc := 47) dX2_readSingle_47 ki_0 ?_
        obtain rfl := Option.some.inj hf
        rw [h0 _ hK]
        exact z_iret dX2_readSingle_48 rfl rfl
    · rw [if_neg hc] at hf
      refine z_aload_n (pc := 26) (i := 0) (j := 1) dX2_readSingle_26 rfl rfl ?_
      refine z_iconst (pc := 27) dX2_readSingle_27 ki_n1 ?_
      refine z_ldcS (pc := 28) (i := 0) (tx := "wlrkns") dX2_readSingle_28 (by decide +kernel) ?_
      refine z_iload_n (pc := 30) (i := 2) (j := 0) dX2_readSingle_30 rfl rfl ?_
      refine z_i2c (pc := 31) dX2_readSingle_31 ?_
      obtain ⟨w9, hw9, hf⟩ := Option.bind_eq_some_iff.mp hf
      obtain ⟨q10, hq10, hf⟩ := Option.bind_eq_some_iff.mp hf
      refine z_oVi (pc := 32) (as := [.int ((Int32.toUInt32 q3.1 % 65536).toInt32)]) (rest := [.int (-1), .ref 1]) dX2_readSingle_32 lm_RX2_95 mf_J0_indexOf_0f7a4 mi_J0_indexOf_0f7a4 mv_J0_indexOf_0f7a4 (ej_RCS hw9) rfl rfl (Nat.le_of_ble_eq_true rfl) (c_J0_indexOf_0f7a4 e (by omega) (2000) ((Int32.toUInt32 q3.1 % 65536).toInt32) q3.2 hq10) ?_
      refine z_isub (pc := 35) dX2_readSingle_35 ?_
      obtain ⟨q11, hq11, hf⟩ := Option.bind_eq_some_iff.mp hf
      refine z_oVv (pc := 36) (as := [.int ((-1) - q10.1)]) (rest := []) dX2_readSingle_36 lm_RX2_61 mf_X2_emit mi_X2_emit mv_X2_emit rc_1 rfl rfl (Nat.le_of_ble_eq_true rfl) (c_X2_emit e (by omega) ((-1) - q10.1) q10.2 hq11) ?_
      refine z_iconst (pc := 39) dX2_readSingle_39 ki_1 ?_
      obtain rfl := Option.some.inj hf
      rw [h0 _ hK]
      exact z_iret dX2_readSingle_40 rfl rfl
  · rw [if_neg hc] at hf
    refine z_aload_n (pc := 10) (i := 0) (j := 0) dX2_readSingle_10 rfl rfl ?_
    obtain ⟨q12, hq12, hf⟩ := Option.bind_eq_some_iff.mp hf
    refine z_oVi (pc := 11) (as := []) (rest := []) dX2_readSingle_11 lm_RX2_90 mf_X2_readNumber mi_X2_readNumber mv_X2_readNumber rc_1 rfl rfl (Nat.le_of_ble_eq_true rfl) (c_X2_readNumber e (by omega) q2.2 hq12) ?_
    rw [h0 _ hK]
    exact z_oretz dX2_readSingle_14 rfl hf
def g_X2_readLevel : Nat → ((Int32 → Int32 → ej_M → Option (Int32 × ej_M)) × (Int32 → ej_M → Option (Int32 × ej_M)))
  | 0 => (fun _ _ _ => none, fun _ _ => none)
  | n + 1 => (f_X2_readLevel_e (g_X2_readLevel n), f_X2_readSingle_e (g_X2_readLevel n))
set_option maxHeartbeats 4000000 in
set_option maxRecDepth 100000 in
theorem c9_X2_readLevel : ∀ (n d : Nat), 5 + n ≤ d → Q_X2_readLevel (g_X2_readLevel n) d := by
  intro n
  induction n with
  | zero =>
    intro d _
    exact ⟨(fun _ _ _ _ h => by cases h), (fun _ _ _ h => by cases h)⟩
  | succ n ih =>
    intro d hd
    obtain ⟨e, rfl⟩ : ∃ e, d = e + 1 := ⟨d - 1, by omega⟩
    refine ⟨?_, ?_⟩
    · intro v1 v2 m q hf
      exact z_met (by decide +kernel) (Nat.le_of_ble_eq_true rfl) (b_X2_readLevel_e e (by omega) (g_X2_readLevel n) (ih e (by omega)) v1 v2 m (K := fun z => ((some (Value.int q.1), (ej_sh, q.2)) : Option Value × ej_H) = (some (Value.int z.1), (ej_sh, z.2))) hf rfl (fun _ h => h))
    · intro v1 m q hf
      exact z_met (by decide +kernel) (Nat.le_of_ble_eq_true rfl) (b_X2_readSingle_e e (by omega) (g_X2_readLevel n) (ih e (by omega)) v1 m (K := fun z => ((some (Value.int q.1), (ej_sh, q.2)) : Option Value × ej_H) = (some (Value.int z.1), (ej_sh, z.2))) hf rfl (fun _ h => h))
def f_X2_readLevel (n : Nat) (v1 : Int32) (v2 : Int32) (m : ej_M) : Option (Int32 × ej_M) := (g_X2_readLevel n).1 v1 v2 m
set_option maxHeartbeats 4000000 in
set_option maxRecDepth 100000 in
theorem c_X2_readLevel (d : Nat) (hd : 125 ≤ d) (v1 : Int32) (v2 : Int32) (m : ej_M) {q : (Int32 × ej_M)} (hf : f_X2_readLevel oj_RF v1 v2 m = some q) : ej_Ct yX2_readLevel cX2_readLevel 6 (some .boolean) d [.ref 1, .int v1, .int v2] (ej_sh, m) (some (Value.int q.1), (ej_sh, q.2)) := (c9_X2_readLevel oj_RF d hd).1 v1 v2 m q hf
def f_X2_readSingle (n : Nat) (v1 : Int32) (m : ej_M) : Option (Int32 × ej_M) := (g_X2_readLevel n).2 v1 m
set_option maxHeartbeats 4000000 in
set_option maxRecDepth 100000 in
theorem c_X2_readSingle (d : Nat) (hd : 125 ≤ d) (v1 : Int32) (m : ej_M) {q : (Int32 × ej_M)} (hf : f_X2_readSingle oj_RF v1 m = some q) : ej_Ct yX2_readSingle cX2_readSingle 4 (some .boolean) d [.ref 1, .int v1] (ej_sh, m) (some (Value.int q.1), (ej_sh, q.2)) := (c9_X2_readLevel oj_RF d hd).2 v1 m q hf
def f_X2_readLine_B37  (m : ej_M) : Option (Int32 × ej_M) :=
  (f_X2_emit (-59) m).bind fun q1 =>
  some (1, q1.2)
set_option maxHeartbeats 4000000 in
set_option maxRecDepth 100000 in
theorem b_X2_readLine_B37 (e : Nat) (hd : 125 ≤ e)  (m : ej_M) {x : (Int32 × ej_M)} {res : Option Value × ej_H} {K : (Int32 × ej_M) → Prop} (hf : f_X2_readLine_B37  m = some x) (hK : K x) (h0 : ∀ q : (Int32 × ej_M), K q → res = (some (Value.int q.1), (ej_sh, q.2))) : ej_Z cX2_readLine 1 (some .boolean) RX2 "readLine" (e + 1) 37 [(0, .ref 1)] [] (ej_sh, m) res := by
  unfold f_X2_readLine_B37 at hf
  refine z_aload_n (pc := 37) (i := 0) (j := 0) dX2_readLine_37 rfl rfl ?_
  refine z_bipush (pc := 38) dX2_readLine_38 kb_n59 ?_
  obtain ⟨q1, hq1, hf⟩ := Option.bind_eq_some_iff.mp hf
  refine z_oVv (pc := 40) (as := [.int (-59)]) (rest := []) dX2_readLine_40 lm_RX2_61 mf_X2_emit mi_X2_emit mv_X2_emit rc_1 rfl rfl (Nat.le_of_ble_eq_true rfl) (c_X2_emit e (by omega) (-59) m hq1) ?_
  refine z_iconst (pc := 43) dX2_readLine_43 ki_1 ?_
  obtain rfl := Option.some.inj hf
  rw [h0 _ hK]
  exact z_iret dX2_readLine_44 rfl rfl
def f_X2_readLine  (m : ej_M) : Option (Int32 × ej_M) :=
  (f_X2_readLevel oj_RF 0 0 m).bind fun q1 =>
  if q1.1 = 0 then
    some (0, q1.2)
  else
    (f_X2_passed (2009) q1.2).bind fun q2 =>
    if q2.1 = 0 then
      f_X2_readLine_B37  q2.2
    else
      (f_X2_emit (-63) q2.2).bind fun q3 =>
      (f_X2_readLevel oj_RF 0 0 q3.2).bind fun q4 =>
      if q4.1 = 0 then
        some (0, q4.2)
      else
        f_X2_readLine_B37  q4.2
set_option maxHeartbeats 4000000 in
set_option maxRecDepth 100000 in
theorem b_X2_readLine (e : Nat) (hd : 125 ≤ e)  (m : ej_M) {x : (Int32 × ej_M)} {res : Option Value × ej_H} {K : (Int32 × ej_M) → Prop} (hf : f_X2_readLine  m = some x) (hK : K x) (h0 : ∀ q : (Int32 × ej_M), K q → res = (some (Value.int q.1), (ej_sh, q.2))) : ej_Z cX2_readLine 1 (some .boolean) RX2 "readLine" (e + 1) 0 [(0, .ref 1)] [] (ej_sh, m) res := by
  unfold f_X2_readLine at hf
  refine z_aload_n (pc := 0) (i := 0) (j := 0) dX2_readLine_0 rfl rfl ?_
  refine z_iconst (pc := 1) dX2_readLine_1 ki_0 ?_
  refine z_iconst (pc := 2) dX2_readLine_2 ki_0 ?_
  obtain ⟨q1, hq1, hf⟩ := Option.bind_eq_some_iff.mp hf
  refine z_oVi (pc := 3) (as := [.int 0, .int 0]) (rest := []) dX2_readLine_3 lm_RX2_55 mf_X2_readLevel mi_X2_readLevel mv_X2_readLevel rc_1 rfl rfl (Nat.le_of_ble_eq_true rfl) (c_X2_readLevel e (by omega) 0 0 m hq1) ?_
  refine z_if_ne (pc := 6) (tgt := 11) dX2_readLine_6 (by decide) (fun hc => ?_) (fun hc => ?_)
  · rw [if_neg hc] at hf
    refine z_aload_n (pc := 11) (i := 0) (j := 0) dX2_readLine_11 rfl rfl ?_
    refine z_ldcS (pc := 12) (i := 9) (tx := "?") dX2_readLine_12 (by decide +kernel) ?_
    obtain ⟨q2, hq2, hf⟩ := Option.bind_eq_some_iff.mp hf
    refine z_oVi (pc := 14) (as := [.ref (2009)]) (rest := []) dX2_readLine_14 lm_RX2_44 mf_X2_passed mi_X2_passed mv_X2_passed rc_1 rfl rfl (Nat.le_of_ble_eq_true rfl) (c_X2_passed e (by omega) (2009) q1.2 hq2) ?_
    refine z_if_eq (pc := 17) (tgt := 37) dX2_readLine_17 (by decide) (fun hc => ?_) (fun hc => ?_)
    · rw [if_pos hc] at hf
      exact z_pick [0] rfl (b_X2_readLine_B37 e hd  q2.2 (K := K) hf hK  h0)
    · rw [if_neg hc] at hf
      refine z_aload_n (pc := 20) (i := 0) (j := 0) dX2_readLine_20 rfl rfl ?_
      refine z_bipush (pc := 21) dX2_readLine_21 kb_n63 ?_
      obtain ⟨q3, hq3, hf⟩ := Option.bind_eq_some_iff.mp hf
      refine z_oVv (pc := 23) (as := [.int (-63)]) (rest := []) dX2_readLine_23 lm_RX2_61 mf_X2_emit mi_X2_emit mv_X2_emit rc_1 rfl rfl (Nat.le_of_ble_eq_true rfl) (c_X2_emit e (by omega) (-63) q2.2 hq3) ?_
      refine z_aload_n (pc := 26) (i := 0) (j := 0) dX2_readLine_26 rfl rfl ?_
      refine z_iconst (pc := 27) dX2_readLine_27 ki_0 ?_
      refine z_iconst (pc := 28) dX2_readLine_28 ki_0 ?_
      obtain ⟨q4, hq4, hf⟩ := Option.bind_eq_some_iff.mp hf
      refine z_oVi (pc := 29) (as := [.int 0, .int 0]) (rest := []) dX2_readLine_29 lm_RX2_55 mf_X2_readLevel mi_X2_readLevel mv_X2_readLevel rc_1 rfl rfl (Nat.le_of_ble_eq_true rfl) (c_X2_readLevel e (by omega) 0 0 q3.2 hq4) ?_
      refine z_if_ne (pc := 32) (tgt := 37) dX2_readLine_32 (by decide) (fun hc => ?_) (fun hc => ?_)
      · rw [if_neg hc] at hf
        exact z_pick [0] rfl (b_X2_readLine_B37 e hd  q4.2 (K := K) hf hK  h0)
      · rw [if_pos hc] at hf
        refine z_iconst (pc := 35) dX2_readLine_35 ki_0 ?_
        obtain rfl := Option.some.inj hf
        rw [h0 _ hK]
        exact z_iret dX2_readLine_36 rfl rfl
  · rw [if_pos hc] at hf
    refine z_iconst (pc := 9) dX2_readLine_9 ki_0 ?_
    obtain rfl := Option.some.inj hf
    rw [h0 _ hK]
    exact z_iret dX2_readLine_10 rfl rfl
set_option maxHeartbeats 4000000 in
set_option maxRecDepth 100000 in
theorem c_X2_readLine (d : Nat) (hd : 126 ≤ d)  (m : ej_M) {q : (Int32 × ej_M)} (hf : f_X2_readLine  m = some q) : ej_Ct yX2_readLine cX2_readLine 1 (some .boolean) d [.ref 1] (ej_sh, m) ((some (Value.int q.1), (ej_sh, q.2)) : Option Value × ej_H) := by
  obtain ⟨e, rfl⟩ : ∃ e, d = e + 1 := ⟨d - 1, by omega⟩
  exact z_met (by decide +kernel) (Nat.le_of_ble_eq_true rfl) (b_X2_readLine e (by omega)  m (K := fun z => ((some (Value.int q.1), (ej_sh, q.2)) : Option Value × ej_H) = (some (Value.int z.1), (ej_sh, z.2))) hf rfl (fun _ h => h))
def f_X2_read_B67 (s0 : Int32) (m : ej_M) : Option (Int32 × ej_M) :=
  (oj_pf m 1 1 0).bind fun m1 =>
  if s0 = 0 then
    some ((m1.1 1 2), m1)
  else
    (f_X10_copy 3 4 (m1.1 1 4) m1).bind fun q2 =>
    (oj_pf q2.2 1 6 (q2.2.1 1 4)).bind fun m3 =>
    some ((-1), m3)
set_option maxHeartbeats 4000000 in
set_option maxRecDepth 100000 in
theorem b_X2_read_B67 (e : Nat) (hd : 126 ≤ e) (s0 : Int32) (m : ej_M) {x : (Int32 × ej_M)} {res : Option Value × ej_H} {K : (Int32 × ej_M) → Prop} (hf : f_X2_read_B67 s0 m = some x) (hK : K x) (h0 : ∀ q : (Int32 × ej_M), K q → res = (some (Value.int q.1), (ej_sh, q.2))) : ej_Z cX2_read 3 (some .int) RX2 "read" (e + 1) 67 [(0, .ref 1)] [.int s0] (ej_sh, m) res := by
  unfold f_X2_read_B67 at hf
  refine z_istore_n (pc := 67) (i := 2) (ls' := [(2, .int s0), (0, .ref 1)]) dX2_read_67 rfl (Nat.le_of_ble_eq_true rfl) rfl ?_
  refine z_aload_n (pc := 68) (i := 0) (j := 1) dX2_read_68 rfl rfl ?_
  refine z_iconst (pc := 69) dX2_read_69 ki_0 ?_
  obtain ⟨m1, hm1, hf⟩ := Option.bind_eq_some_iff.mp hf
  refine z_oputI (pc := 70) dX2_read_70 lf_RX2_24 sh_1 rfl hm1 ?_
  refine z_iload_n (pc := 73) (i := 2) (j := 0) dX2_read_73 rfl rfl ?_
  refine z_if_ne (pc := 74) (tgt := 82) dX2_read_74 (by decide) (fun hc => ?_) (fun hc => ?_)
  · rw [if_neg hc] at hf
    refine z_aload_n (pc := 82) (i := 0) (j := 1) dX2_read_82 rfl rfl ?_
    refine z_ogetR (pc := 83) dX2_read_83 lf_RX2_15 sh_1 rfl rfl rfl ?_
    refine z_aload_n (pc := 86) (i := 0) (j := 1) dX2_read_86 rfl rfl ?_
    refine z_ogetR (pc := 87) dX2_read_87 lf_RX2_18 sh_1 rfl rfl rfl ?_
    refine z_aload_n (pc := 90) (i := 0) (j := 1) dX2_read_90 rfl rfl ?_
    refine z_ogetI (pc := 91) dX2_read_91 lf_RX2_35 sh_1 rfl rfl ?_
    obtain ⟨q2, hq2, hf⟩ := Option.bind_eq_some_iff.mp hf
    refine z_oSv (pc := 94) (as := [.ref 3, .ref 4, .int (m1.1 1 4)]) (rest := []) dX2_read_94 lm_RX2_48 mf_X10_copy ms_X10_copy rfl rfl (Nat.le_of_ble_eq_true rfl) (c_X10_copy e (by omega) 3 4 (m1.1 1 4) m1 hq2) ?_
    refine z_aload_n (pc := 97) (i := 0) (j := 1) dX2_read_97 rfl rfl ?_
    refine z_aload_n (pc := 98) (i := 0) (j := 1) dX2_read_98 rfl rfl ?_
    refine z_ogetI (pc := 99) dX2_read_99 lf_RX2_35 sh_1 rfl rfl ?_
    obtain ⟨m3, hm3, hf⟩ := Option.bind_eq_some_iff.mp hf
    refine z_oputI (pc := 102) dX2_read_102 lf_RX2_52 sh_1 rfl hm3 ?_
    refine z_iconst (pc := 105) dX2_read_105 ki_n1 ?_
    obtain rfl := Option.some.inj hf
    rw [h0 _ hK]
    exact z_iret dX2_read_106 rfl rfl
  · rw [if_pos hc] at hf
    refine z_aload_n (pc := 77) (i := 0) (j := 1) dX2_read_77 rfl rfl ?_
    refine z_ogetI (pc := 78) dX2_read_78 lf_RX2_32 sh_1 rfl rfl ?_
    obtain rfl := Option.some.inj hf
    rw [h0 _ hK]
    exact z_iret dX2_read_81 rfl rfl
def f_X2_read_B66  (m : ej_M) : Option (Int32 × ej_M) :=
  f_X2_read_B67 0 m
set_option maxHeartbeats 4000000 in
set_option maxRecDepth 100000 in
theorem b_X2_read_B66 (e : Nat) (hd : 126 ≤ e)  (m : ej_M) {x : (Int32 × ej_M)} {res : Option Value × ej_H} {K : (Int32 × ej_M) → Prop} (hf : f_X2_read_B66  m = some x) (hK : K x) (h0 : ∀ q : (Int32 × ej_M), K q → res = (some (Value.int q.1), (ej_sh, q.2))) : ej_Z cX2_read 3 (some .int) RX2 "read" (e + 1) 66 [(0, .ref 1)] [] (ej_sh, m) res := by
  unfold f_X2_read_B66 at hf
  refine z_iconst (pc := 66) dX2_read_66 ki_0 ?_
  exact z_pick [0] rfl (b_X2_read_B67 e hd 0 m (K := K) hf hK  h0)
def f_X2_read_B47 (v1 : Int32) (m : ej_M) : Option (Int32 × ej_M) :=
  if v1 = 0 then
    f_X2_read_B66  m
  else
    if (m.1 1 2) < (m.1 1 1) then
      f_X2_read_B66  m
    else
      f_X2_read_B67 1 m
set_option maxHeartbeats 4000000 in
set_option maxRecDepth 100000 in
theorem b_X2_read_B47 (e : Nat) (hd : 126 ≤ e) (v1 : Int32) (m : ej_M) {x : (Int32 × ej_M)} {res : Option Value × ej_H} {K : (Int32 × ej_M) → Prop} (hf : f_X2_read_B47 v1 m = some x) (hK : K x) (h0 : ∀ q : (Int32 × ej_M), K q → res = (some (Value.int q.1), (ej_sh, q.2))) : ej_Z cX2_read 3 (some .int) RX2 "read" (e + 1) 47 [(0, .ref 1), (1, .int v1)] [] (ej_sh, m) res := by
  unfold f_X2_read_B47 at hf
  refine z_iload_n (pc := 47) (i := 1) (j := 1) dX2_read_47 rfl rfl ?_
  refine z_if_eq (pc := 48) (tgt := 66) dX2_read_48 (by decide) (fun hc => ?_) (fun hc => ?_)
  · rw [if_pos hc] at hf
    exact z_pick [0] rfl (b_X2_read_B66 e hd  m (K := K) hf hK  h0)
  · rw [if_neg hc] at hf
    refine z_aload_n (pc := 51) (i := 0) (j := 0) dX2_read_51 rfl rfl ?_
    refine z_ogetI (pc := 52) dX2_read_52 lf_RX2_32 sh_1 rfl rfl ?_
    refine z_aload_n (pc := 55) (i := 0) (j := 0) dX2_read_55 rfl rfl ?_
    refine z_ogetI (pc := 56) dX2_read_56 lf_RX2_24 sh_1 rfl rfl ?_
    refine z_icmp_lt (pc := 59) (tgt := 66) dX2_read_59 (by decide) (fun hc => ?_) (fun hc => ?_)
    · rw [if_pos hc] at hf
      exact z_pick [0] rfl (b_X2_read_B66 e hd  m (K := K) hf hK  h0)
    · rw [if_neg hc] at hf
      refine z_iconst (pc := 62) dX2_read_62 ki_1 ?_
      refine z_goto (pc := 63) (tgt := 67) dX2_read_63 (by decide) ?_
      exact z_pick [0] rfl (b_X2_read_B67 e hd 1 m (K := K) hf hK  h0)
def f_X2_read_L17b (v1 : Int32) (v2 : Int32) (m : ej_M) : Option ((Int32 × Int32 × ej_M) ⊕ (Int32 × ej_M)) :=
  if 120 ≤ v2 then
    (f_X2_read_B47 v1 m).map fun y => (Sum.inr y)
  else
    if v1 = 0 then
      (f_X2_read_B47 v1 m).map fun y => (Sum.inr y)
    else
      (f_X2_passed (2010) m).bind fun q1 =>
      if q1.1 = 0 then
        (f_X2_read_B47 v1 q1.2).map fun y => (Sum.inr y)
      else
        (f_X2_readLine q1.2).bind fun q2 =>
        some (Sum.inl (q2.1, (v2 + 1), q2.2))
set_option maxHeartbeats 4000000 in
set_option maxRecDepth 100000 in
theorem b_X2_read_L17b (e : Nat) (hd : 126 ≤ e) (v1 : Int32) (v2 : Int32) (m : ej_M) {x : ((Int32 × Int32 × ej_M) ⊕ (Int32 × ej_M))} {res : Option Value × ej_H} {K : ((Int32 × Int32 × ej_M) ⊕ (Int32 × ej_M)) → Prop} (hf : f_X2_read_L17b v1 v2 m = some x) (hK : K x) (h1 : ∀ q : (Int32 × Int32 × ej_M), K (Sum.inl q) → ej_Z cX2_read 3 (some .int) RX2 "read" (e + 1) 17 [(0, .ref 1), (1, .int q.1), (2, .int q.2.1)] [] (ej_sh, q.2.2) res) (h0 : ∀ q : (Int32 × ej_M), K (Sum.inr q) → res = (some (Value.int q.1), (ej_sh, q.2))) : ej_Z cX2_read 3 (some .int) RX2 "read" (e + 1) 17 [(0, .ref 1), (1, .int v1), (2, .int v2)] [] (ej_sh, m) res := by
  unfold f_X2_read_L17b at hf
  refine z_iload_n (pc := 17) (i := 2) (j := 2) dX2_read_17 rfl rfl ?_
  refine z_bipush (pc := 18) dX2_read_18 kb_120 ?_
  refine z_icmp_ge (pc := 20) (tgt := 47) dX2_read_20 (by decide) (fun hc => ?_) (fun hc => ?_)
  · rw [if_pos hc] at hf
    obtain ⟨y, hy, hxy⟩ := Option.map_eq_some_iff.mp hf
    subst hxy
    exact z_pick [0, 1] rfl (b_X2_read_B47 e hd v1 m (K := fun y => K (Sum.inr y)) hy hK  h0)
  · rw [if_neg hc] at hf
    refine z_iload_n (pc := 23) (i := 1) (j := 1) dX2_read_23 rfl rfl ?_
    refine z_if_eq (pc := 24) (tgt := 47) dX2_read_24 (by decide) (fun hc => ?_) (fun hc => ?_)
    · rw [if_pos hc] at hf
      obtain ⟨y, hy, hxy⟩ := Option.map_eq_some_iff.mp hf
      subst hxy
      exact z_pick [0, 1] rfl (b_X2_read_B47 e hd v1 m (K := fun y => K (Sum.inr y)) hy hK  h0)
    · rw [if_neg hc] at hf
      refine z_aload_n (pc := 27) (i := 0) (j := 0) dX2_read_27 rfl rfl ?_
      refine z_ldcS (pc := 28) (i := 10) (tx := ";") dX2_read_28 (by decide +kernel) ?_
      obtain ⟨q1, hq1, hf⟩ := Option.bind_eq_some_iff.mp hf
      refine z_oVi (pc := 30) (as := [.ref (2010)]) (rest := []) dX2_read_30 lm_RX2_44 mf_X2_passed mi_X2_passed mv_X2_passed rc_1 rfl rfl (Nat.le_of_ble_eq_true rfl) (c_X2_passed e (by omega) (2010) m hq1) ?_
      refine z_if_eq (pc := 33) (tgt := 47) dX2_read_33 (by decide) (fun hc => ?_) (fun hc => ?_)
      · rw [if_pos hc] at hf
        obtain ⟨y, hy, hxy⟩ := Option.map_eq_some_iff.mp hf
        subst hxy
        exact z_pick [0, 1] rfl (b_X2_read_B47 e hd v1 q1.2 (K := fun y => K (Sum.inr y)) hy hK  h0)
      · rw [if_neg hc] at hf
        refine z_aload_n (pc := 36) (i := 0) (j := 0) dX2_read_36 rfl rfl ?_
        obtain ⟨q2, hq2, hf⟩ := Option.bind_eq_some_iff.mp hf
        refine z_oVi (pc := 37) (as := []) (rest := []) dX2_read_37 lm_RX2_38 mf_X2_readLine mi_X2_readLine mv_X2_readLine rc_1 rfl rfl (Nat.le_of_ble_eq_true rfl) (c_X2_readLine e (by omega) q1.2 hq2) ?_
        refine z_istore_n (pc := 40) (i := 1) (ls' := [(1, .int q2.1), (0, .ref 1), (2, .int v2)]) dX2_read_40 rfl (Nat.le_of_ble_eq_true rfl) rfl ?_
        refine z_iinc (pc := 41) (j := 2) (ls' := [(2, .int (v2 + 1)), (1, .int q2.1), (0, .ref 1)]) dX2_read_41 rfl ki_1 (Nat.le_of_ble_eq_true rfl) rfl ?_
        refine z_goto (pc := 44) (tgt := 17) dX2_read_44 (by decide) ?_
        obtain rfl := Option.some.inj hf
        exact z_pick (ls' := [(0, .ref 1), (1, .int q2.1), (2, .int (v2 + 1))]) [2, 1, 0] rfl (h1 (q2.1, (v2 + 1), q2.2) hK)
def f_X2_read_L17 (v1 : Int32) (v2 : Int32) (m : ej_M) : Option (Int32 × ej_M) := oj_loop (fun q : (Int32 × Int32 × ej_M) => f_X2_read_L17b q.1 q.2.1 q.2.2) oj_FU (v1, v2, m)
set_option maxHeartbeats 4000000 in
set_option maxRecDepth 100000 in
theorem b_X2_read_L17 (e : Nat) (hd : 126 ≤ e) (v1 : Int32) (v2 : Int32) (m : ej_M) {x : (Int32 × ej_M)} {res : Option Value × ej_H} {K : (Int32 × ej_M) → Prop} (hf : f_X2_read_L17 v1 v2 m = some x) (hK : K x) (h0 : ∀ q : (Int32 × ej_M), K q → res = (some (Value.int q.1), (ej_sh, q.2))) : ej_Z cX2_read 3 (some .int) RX2 "read" (e + 1) 17 [(0, .ref 1), (1, .int v1), (2, .int v2)] [] (ej_sh, m) res :=
  oj_loop_Z (body := fun q : (Int32 × Int32 × ej_M) => f_X2_read_L17b q.1 q.2.1 q.2.2) (P := fun q : (Int32 × Int32 × ej_M) => ej_Z cX2_read 3 (some .int) RX2 "read" (e + 1) 17 [(0, .ref 1), (1, .int q.1), (2, .int q.2.1)] [] (ej_sh, q.2.2) res) (K := K) (fun s x hb hl hr => b_X2_read_L17b e hd  s.1 s.2.1 s.2.2 (K := fun x => (∀ s' : (Int32 × Int32 × ej_M), x = Sum.inl s' → ej_Z cX2_read 3 (some .int) RX2 "read" (e + 1) 17 [(0, .ref 1), (1, .int s'.1), (2, .int s'.2.1)] [] (ej_sh, s'.2.2) res) ∧ ∀ e, x = Sum.inr e → K e) hb ⟨hl, hr⟩ (fun q hq => hq.1 q rfl) (fun q hq => h0 q (hq.2 _ rfl))) oj_FU (v1, v2, m) x hf hK
def f_X2_read  (m : ej_M) : Option (Int32 × ej_M) :=
  (oj_pf m 1 2 0).bind fun m1 =>
  (oj_pf m1 1 4 0).bind fun m2 =>
  (f_X2_readLine m2).bind fun q3 =>
  f_X2_read_L17 q3.1 1 q3.2
set_option maxHeartbeats 4000000 in
set_option maxRecDepth 100000 in
theorem b_X2_read (e : Nat) (hd : 126 ≤ e)  (m : ej_M) {x : (Int32 × ej_M)} {res : Option Value × ej_H} {K : (Int32 × ej_M) → Prop} (hf : f_X2_read  m = some x) (hK : K x) (h0 : ∀ q : (Int32 × ej_M), K q → res = (some (Value.int q.1), (ej_sh, q.2))) : ej_Z cX2_read 3 (some .int) RX2 "read" (e + 1) 0 [(0, .ref 1)] [] (ej_sh, m) res := by
  unfold f_X2_read at hf
  refine z_aload_n (pc := 0) (i := 0) (j := 0) dX2_read_0 rfl rfl ?_
  refine z_iconst (pc := 1) dX2_read_1 ki_0 ?_
  obtain ⟨m1, hm1, hf⟩ := Option.bind_eq_some_iff.mp hf
  refine z_oputI (pc := 2) dX2_read_2 lf_RX2_32 sh_1 rfl hm1 ?_
  refine z_aload_n (pc := 5) (i := 0) (j := 0) dX2_read_5 rfl rfl ?_
  refine z_iconst (pc := 6) dX2_read_6 ki_0 ?_
  obtain ⟨m2, hm2, hf⟩ := Option.bind_eq_some_iff.mp hf
  refine z_oputI (pc := 7) dX2_read_7 lf_RX2_35 sh_1 rfl hm2 ?_
  refine z_aload_n (pc := 10) (i := 0) (j := 0) dX2_read_10 rfl rfl ?_
  obtain ⟨q3, hq3, hf⟩ := Option.bind_eq_some_iff.mp hf
  refine z_oVi (pc := 11) (as := []) (rest := []) dX2_read_11 lm_RX2_38 mf_X2_readLine mi_X2_readLine mv_X2_readLine rc_1 rfl rfl (Nat.le_of_ble_eq_true rfl) (c_X2_readLine e (by omega) m2 hq3) ?_
  refine z_istore_n (pc := 14) (i := 1) (ls' := [(1, .int q3.1), (0, .ref 1)]) dX2_read_14 rfl (Nat.le_of_ble_eq_true rfl) rfl ?_
  refine z_iconst (pc := 15) dX2_read_15 ki_1 ?_
  refine z_istore_n (pc := 16) (i := 2) (ls' := [(2, .int 1), (1, .int q3.1), (0, .ref 1)]) dX2_read_16 rfl (Nat.le_of_ble_eq_true rfl) rfl ?_
  exact z_pick [2, 1, 0] rfl (b_X2_read_L17 e hd q3.1 1 q3.2 (K := K) hf hK  h0)
set_option maxHeartbeats 4000000 in
set_option maxRecDepth 100000 in
theorem c_X2_read (d : Nat) (hd : 127 ≤ d)  (m : ej_M) {q : (Int32 × ej_M)} (hf : f_X2_read  m = some q) : ej_Ct yX2_read cX2_read 3 (some .int) d [.ref 1] (ej_sh, m) ((some (Value.int q.1), (ej_sh, q.2)) : Option Value × ej_H) := by
  obtain ⟨e, rfl⟩ : ∃ e, d = e + 1 := ⟨d - 1, by omega⟩
  exact z_met (by decide +kernel) (Nat.le_of_ble_eq_true rfl) (b_X2_read e (by omega)  m (K := fun z => ((some (Value.int q.1), (ej_sh, q.2)) : Option Value × ej_H) = (some (Value.int z.1), (ej_sh, z.2))) hf rfl (fun _ h => h))
def f_X10_law  (m : ej_M) : Option (Int32 × ej_M) :=
  (f_X2_read m).bind fun q1 =>
  if q1.1 = (-1) then
    (f_X4_judgeAnew q1.2).bind fun q2 =>
    some (1, q2.2)
  else
    some (((-100) - q1.1), q1.2)
set_option maxHeartbeats 4000000 in
set_option maxRecDepth 100000 in
theorem b_X10_law (e : Nat) (hd : 127 ≤ e)  (m : ej_M) {x : (Int32 × ej_M)} {res : Option Value × ej_H} {K : (Int32 × ej_M) → Prop} (hf : f_X10_law  m = some x) (hK : K x) (h0 : ∀ q : (Int32 × ej_M), K q → res = (some (Value.int q.1), (ej_sh, q.2))) : ej_Z cX10_law 2 (some .int) RX10 "law" (e + 1) 0 [(0, .ref 0)] [] (ej_sh, m) res := by
  unfold f_X10_law at hf
  refine z_aload_n (pc := 0) (i := 0) (j := 0) dX10_law_0 rfl rfl ?_
  refine z_ogetR (pc := 1) dX10_law_1 lf_RX10_10 sh_0 rfl rfl rfl ?_
  obtain ⟨q1, hq1, hf⟩ := Option.bind_eq_some_iff.mp hf
  refine z_oVi (pc := 4) (as := []) (rest := []) dX10_law_4 lm_RX10_152 mf_X2_read mi_X2_read mv_X2_read rc_1 rfl rfl (Nat.le_of_ble_eq_true rfl) (c_X2_read e (by omega) m hq1) ?_
  refine z_istore_n (pc := 7) (i := 1) (ls' := [(1, .int q1.1), (0, .ref 0)]) dX10_law_7 rfl (Nat.le_of_ble_eq_true rfl) rfl ?_
  refine z_iload_n (pc := 8) (i := 1) (j := 0) dX10_law_8 rfl rfl ?_
  refine z_iconst (pc := 9) dX10_law_9 ki_n1 ?_
  refine z_icmp_eq (pc := 10) (tgt := 18) dX10_law_10 (by decide) (fun hc => ?_) (fun hc => ?_)
  · rw [if_pos hc] at hf
    refine z_aload_n (pc := 18) (i := 0) (j := 1) dX10_law_18 rfl rfl ?_
    refine z_ogetR (pc := 19) dX10_law_19 lf_RX10_21 sh_0 rfl rfl rfl ?_
    obtain ⟨q2, hq2, hf⟩ := Option.bind_eq_some_iff.mp hf
    refine z_oVv (pc := 22) (as := []) (rest := []) dX10_law_22 lm_RX10_156 mf_X4_judgeAnew mi_X4_judgeAnew mv_X4_judgeAnew rc_6 rfl rfl (Nat.le_of_ble_eq_true rfl) (c_X4_judgeAnew e (by omega) q1.2 hq2) ?_
    refine z_iconst (pc := 25) dX10_law_25 ki_1 ?_
    obtain rfl := Option.some.inj hf
    rw [h0 _ hK]
    exact z_iret dX10_law_26 rfl rfl
  · rw [if_neg hc] at hf
    refine z_bipush (pc := 13) dX10_law_13 kb_n100 ?_
    refine z_iload_n (pc := 15) (i := 1) (j := 0) dX10_law_15 rfl rfl ?_
    refine z_isub (pc := 16) dX10_law_16 ?_
    obtain rfl := Option.some.inj hf
    rw [h0 _ hK]
    exact z_iret dX10_law_17 rfl rfl
set_option maxHeartbeats 4000000 in
set_option maxRecDepth 100000 in
theorem c_X10_law (d : Nat) (hd : 128 ≤ d)  (m : ej_M) {q : (Int32 × ej_M)} (hf : f_X10_law  m = some q) : ej_Ct yX10_law cX10_law 2 (some .int) d [.ref 0] (ej_sh, m) ((some (Value.int q.1), (ej_sh, q.2)) : Option Value × ej_H) := by
  obtain ⟨e, rfl⟩ : ∃ e, d = e + 1 := ⟨d - 1, by omega⟩
  exact z_met (by decide +kernel) (Nat.le_of_ble_eq_true rfl) (b_X10_law e (by omega)  m (K := fun z => ((some (Value.int q.1), (ej_sh, q.2)) : Option Value × ej_H) = (some (Value.int z.1), (ej_sh, z.2))) hf rfl (fun _ h => h))
def f_X11_faulty  (m : ej_M) : Option (Unit × ej_M) :=
  if 0 ≤ (m.1 41 17) then
    some ((), m)
  else
    (oj_pf m 41 17 (m.1 41 16)).bind fun m1 =>
    some ((), m1)
set_option maxHeartbeats 4000000 in
set_option maxRecDepth 100000 in
theorem b_X11_faulty (d : Nat)  (m : ej_M) {x : (Unit × ej_M)} {res : Option Value × ej_H} {K : (Unit × ej_M) → Prop} (hf : f_X11_faulty  m = some x) (hK : K x) (h0 : ∀ q : (Unit × ej_M), K q → res = (none, (ej_sh, q.2))) : ej_Z cX11_faulty 1 none RX11 "faulty" d 0 [(0, .ref 41)] [] (ej_sh, m) res := by
  unfold f_X11_faulty at hf
  refine z_aload_n (pc := 0) (i := 0) (j := 0) dX11_faulty_0 rfl rfl ?_
  refine z_ogetI (pc := 1) dX11_faulty_1 lf_RX11_149 sh_41 rfl rfl ?_
  refine z_if_ge (pc := 4) (tgt := 15) dX11_faulty_4 (by decide) (fun hc => ?_) (fun hc => ?_)
  · rw [if_pos hc] at hf
    obtain rfl := Option.some.inj hf
    rw [h0 _ hK]
    exact z_ret dX11_faulty_15 rfl
  · rw [if_neg hc] at hf
    refine z_aload_n (pc := 7) (i := 0) (j := 0) dX11_faulty_7 rfl rfl ?_
    refine z_aload_n (pc := 8) (i := 0) (j := 0) dX11_faulty_8 rfl rfl ?_
    refine z_ogetI (pc := 9) dX11_faulty_9 lf_RX11_146 sh_41 rfl rfl ?_
    obtain ⟨m1, hm1, hf⟩ := Option.bind_eq_some_iff.mp hf
    refine z_oputI (pc := 12) dX11_faulty_12 lf_RX11_149 sh_41 rfl hm1 ?_
    obtain rfl := Option.some.inj hf
    rw [h0 _ hK]
    exact z_ret dX11_faulty_15 rfl
set_option maxHeartbeats 4000000 in
set_option maxRecDepth 100000 in
theorem c_X11_faulty (d : Nat) (hd : 0 ≤ d)  (m : ej_M) {q : (Unit × ej_M)} (hf : f_X11_faulty  m = some q) : ej_Ct yX11_faulty cX11_faulty 1 none d [.ref 41] (ej_sh, m) ((none, (ej_sh, q.2)) : Option Value × ej_H) := by
  exact z_met (by decide +kernel) (Nat.le_of_ble_eq_true rfl) (b_X11_faulty d  m (K := fun z => ((none, (ej_sh, q.2)) : Option Value × ej_H) = (none, (ej_sh, z.2))) hf rfl (fun _ h => h))
def f_X11_addStep (v1 : Int32) (v2 : Int32) (m : ej_M) : Option (Unit × ej_M) :=
  (oj_st 1 m 49 (130 + (m.1 41 19)) (vp_nar .byte ((Int32.toInt8 v1).toInt32))).bind fun m1 =>
  (oj_st 0 m1 50 (130 + (m1.1 41 19)) v2).bind fun m2 =>
  (oj_pf m2 41 19 ((m2.1 41 19) + 1)).bind fun m3 =>
  some ((), m3)
set_option maxHeartbeats 4000000 in
set_option maxRecDepth 100000 in
theorem b_X11_addStep (d : Nat) (v1 : Int32) (v2 : Int32) (m : ej_M) {x : (Unit × ej_M)} {res : Option Value × ej_H} {K : (Unit × ej_M) → Prop} (hf : f_X11_addStep v1 v2 m = some x) (hK : K x) (h0 : ∀ q : (Unit × ej_M), K q → res = (none, (ej_sh, q.2))) : ej_Z cX11_addStep 3 none RX11 "addStep" d 0 [(0, .ref 41), (1, .int v1), (2, .int v2)] [] (ej_sh, m) res := by
  unfold f_X11_addStep at hf
  refine z_aload_n (pc := 0) (i := 0) (j := 0) dX11_addStep_0 rfl rfl ?_
  refine z_ogetR (pc := 1) dX11_addStep_1 lf_RX11_32 sh_41 rfl rfl rfl ?_
  refine z_sipush (pc := 4) dX11_addStep_4 ks_130 ?_
  refine z_aload_n (pc := 7) (i := 0) (j := 0) dX11_addStep_7 rfl rfl ?_
  refine z_ogetI (pc := 8) dX11_addStep_8 lf_RX11_152 sh_41 rfl rfl ?_
  refine z_iadd (pc := 11) dX11_addStep_11 ?_
  refine z_iload_n (pc := 12) (i := 1) (j := 1) dX11_addStep_12 rfl rfl ?_
  refine z_i2b (pc := 13) dX11_addStep_13 ?_
  obtain ⟨m1, hm1, hf⟩ := Option.bind_eq_some_iff.mp hf
  refine z_obast (pc := 14) dX11_addStep_14 hm1 ?_
  refine z_aload_n (pc := 15) (i := 0) (j := 0) dX11_addStep_15 rfl rfl ?_
  refine z_ogetR (pc := 16) dX11_addStep_16 lf_RX11_35 sh_41 rfl rfl rfl ?_
  refine z_sipush (pc := 19) dX11_addStep_19 ks_130 ?_
  refine z_aload_n (pc := 22) (i := 0) (j := 0) dX11_addStep_22 rfl rfl ?_
  refine z_ogetI (pc := 23) dX11_addStep_23 lf_RX11_152 sh_41 rfl rfl ?_
  refine z_iadd (pc := 26) dX11_addStep_26 ?_
  refine z_iload_n (pc := 27) (i := 2) (j := 2) dX11_addStep_27 rfl rfl ?_
  obtain ⟨m2, hm2, hf⟩ := Option.bind_eq_some_iff.mp hf
  refine z_oiast (pc := 28) dX11_addStep_28 hm2 ?_
  refine z_aload_n (pc := 29) (i := 0) (j := 0) dX11_addStep_29 rfl rfl ?_
  refine z_dup (pc := 30) dX11_addStep_30 rfl ?_
  refine z_ogetI (pc := 31) dX11_addStep_31 lf_RX11_152 sh_41 rfl rfl ?_
  refine z_iconst (pc := 34) dX11_addStep_34 ki_1 ?_
  refine z_iadd (pc := 35) dX11_addStep_35 ?_
  obtain ⟨m3, hm3, hf⟩ := Option.bind_eq_some_iff.mp hf
  refine z_oputI (pc := 36) dX11_addStep_36 lf_RX11_152 sh_41 rfl hm3 ?_
  obtain rfl := Option.some.inj hf
  rw [h0 _ hK]
  exact z_ret dX11_addStep_39 rfl
set_option maxHeartbeats 4000000 in
set_option maxRecDepth 100000 in
theorem c_X11_addStep (d : Nat) (hd : 0 ≤ d) (v1 : Int32) (v2 : Int32) (m : ej_M) {q : (Unit × ej_M)} (hf : f_X11_addStep v1 v2 m = some q) : ej_Ct yX11_addStep cX11_addStep 3 none d [.ref 41, .int v1, .int v2] (ej_sh, m) ((none, (ej_sh, q.2)) : Option Value × ej_H) := by
  exact z_met (by decide +kernel) (Nat.le_of_ble_eq_true rfl) (b_X11_addStep d v1 v2 m (K := fun z => ((none, (ej_sh, q.2)) : Option Value × ej_H) = (none, (ej_sh, z.2))) hf rfl (fun _ h => h))
def f_X11_look  (m : ej_M) : Option (Int32 × ej_M) :=
  if (m.1 41 15) ≤ (m.1 41 16) then
    some ((-1), m)
  else
    (oj_ld 1 m 48 (m.1 41 16)).bind fun w1 =>
    some (w1, m)
set_option maxHeartbeats 4000000 in
set_option maxRecDepth 100000 in
theorem b_X11_look (d : Nat)  (m : ej_M) {x : (Int32 × ej_M)} {res : Option Value × ej_H} {K : (Int32 × ej_M) → Prop} (hf : f_X11_look  m = some x) (hK : K x) (h0 : ∀ q : (Int32 × ej_M), K q → res = (some (Value.int q.1), (ej_sh, q.2))) : ej_Z cX11_look 1 (some .int) RX11 "look" d 0 [(0, .ref 41)] [] (ej_sh, m) res := by
  unfold f_X11_look at hf
  refine z_aload_n (pc := 0) (i := 0) (j := 0) dX11_look_0 rfl rfl ?_
  refine z_ogetI (pc := 1) dX11_look_1 lf_RX11_146 sh_41 rfl rfl ?_
  refine z_aload_n (pc := 4) (i := 0) (j := 0) dX11_look_4 rfl rfl ?_
  refine z_ogetI (pc := 5) dX11_look_5 lf_RX11_143 sh_41 rfl rfl ?_
  refine z_icmp_ge (pc := 8) (tgt := 23) dX11_look_8 (by decide) (fun hc => ?_) (fun hc => ?_)
  · rw [if_pos hc] at hf
    refine z_iconst (pc := 23) dX11_look_23 ki_n1 ?_
    obtain rfl := Option.some.inj hf
    rw [h0 _ hK]
    exact z_iret dX11_look_24 rfl rfl
  · rw [if_neg hc] at hf
    refine z_aload_n (pc := 11) (i := 0) (j := 0) dX11_look_11 rfl rfl ?_
    refine z_ogetR (pc := 12) dX11_look_12 lf_RX11_28 sh_41 rfl rfl rfl ?_
    refine z_aload_n (pc := 15) (i := 0) (j := 0) dX11_look_15 rfl rfl ?_
    refine z_ogetI (pc := 16) dX11_look_16 lf_RX11_146 sh_41 rfl rfl ?_
    obtain ⟨w1, hw1, hf⟩ := Option.bind_eq_some_iff.mp hf
    refine z_obald (pc := 19) dX11_look_19 hw1 ?_
    refine z_goto (pc := 20) (tgt := 24) dX11_look_20 (by decide) ?_
    obtain rfl := Option.some.inj hf
    rw [h0 _ hK]
    exact z_iret dX11_look_24 rfl rfl
set_option maxHeartbeats 4000000 in
set_option maxRecDepth 100000 in
theorem c_X11_look (d : Nat) (hd : 0 ≤ d)  (m : ej_M) {q : (Int32 × ej_M)} (hf : f_X11_look  m = some q) : ej_Ct yX11_look cX11_look 1 (some .int) d [.ref 41] (ej_sh, m) ((some (Value.int q.1), (ej_sh, q.2)) : Option Value × ej_H) := by
  exact z_met (by decide +kernel) (Nat.le_of_ble_eq_true rfl) (b_X11_look d  m (K := fun z => ((some (Value.int q.1), (ej_sh, q.2)) : Option Value × ej_H) = (some (Value.int z.1), (ej_sh, z.2))) hf rfl (fun _ h => h))
