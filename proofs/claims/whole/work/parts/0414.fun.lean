def f_X6_hold_L21b (v1 : Int32) (v4 : Int32) (m : ej_M) : Option ((Int32 × ej_M) ⊕ (Unit × ej_M)) :=
  if 60 ≤ v4 then
    some (Sum.inr ((), m))
  else
    (f_X6_store v1 v4 (0 : Int64) m).bind fun q1 =>
    some (Sum.inl ((v4 + 1), q1.2))
set_option maxHeartbeats 4000000 in
set_option maxRecDepth 100000 in
theorem b_X6_hold_L21b (e : Nat) (hd : 0 ≤ e) (v1 : Int32) (v4 : Int32) (m : ej_M) {x : ((Int32 × ej_M) ⊕ (Unit × ej_M))} {res : Option Value × ej_H} {K : ((Int32 × ej_M) ⊕ (Unit × ej_M)) → Prop} (hf : f_X6_hold_L21b v1 v4 m = some x) (hK : K x) (h1 : ∀ q : (Int32 × ej_M), K (Sum.inl q) → ej_Z cX6_hold 5 none RX6 "hold" (e + 1) 21 [(0, .ref 37), (1, .int v1), (4, .int q.1)] [] (ej_sh, q.2) res) (h0 : ∀ q : (Unit × ej_M), K (Sum.inr q) → res = (none, (ej_sh, q.2))) : ej_Z cX6_hold 5 none RX6 "hold" (e + 1) 21 [(0, .ref 37), (1, .int v1), (4, .int v4)] [] (ej_sh, m) res := by
  unfold f_X6_hold_L21b at hf
  refine z_iload (pc := 21) (i := 4) (j := 2) dX6_hold_21 rfl ?_
  refine z_bipush (pc := 23) dX6_hold_23 kb_60 ?_
  refine z_icmp_ge (pc := 25) (tgt := 42) dX6_hold_25 (by decide) (fun hc => ?_) (fun hc => ?_)
  · rw [if_pos hc] at hf
    obtain rfl := Option.some.inj hf
    rw [h0 _ hK]
    exact z_ret dX6_hold_42 rfl
  · rw [if_neg hc] at hf
    refine z_aload_n (pc := 28) (i := 0) (j := 0) dX6_hold_28 rfl rfl ?_
    refine z_iload_n (pc := 29) (i := 1) (j := 1) dX6_hold_29 rfl rfl ?_
    refine z_iload (pc := 30) (i := 4) (j := 2) dX6_hold_30 rfl ?_
    refine z_lconst (pc := 32) dX6_hold_32 kl_0 ?_
    obtain ⟨q1, hq1, hf⟩ := Option.bind_eq_some_iff.mp hf
    refine z_oVv (pc := 33) (as := [.int v1, .int v4, .long (0 : Int64)]) (rest := []) dX6_hold_33 lm_RX6_30 mf_X6_store mi_X6_store mv_X6_store rc_37 rfl rfl (Nat.le_of_ble_eq_true rfl) (c_X6_store e (by omega) v1 v4 (0 : Int64) m hq1) ?_
    refine z_iinc (pc := 36) (j := 2) (ls' := [(4, .int (v4 + 1)), (0, .ref 37), (1, .int v1)]) dX6_hold_36 rfl ki_1 (Nat.le_of_ble_eq_true rfl) rfl ?_
    refine z_goto (pc := 39) (tgt := 21) dX6_hold_39 (by decide) ?_
    obtain rfl := Option.some.inj hf
    exact z_pick (ls' := [(0, .ref 37), (1, .int v1), (4, .int (v4 + 1))]) [1, 2, 0] rfl (h1 ((v4 + 1), q1.2) hK)
def f_X6_hold_L21 (v1 : Int32) (v4 : Int32) (m : ej_M) : Option (Unit × ej_M) := oj_loop (fun q : (Int32 × ej_M) => f_X6_hold_L21b v1 q.1 q.2) oj_FU (v4, m)
set_option maxHeartbeats 4000000 in
set_option maxRecDepth 100000 in
theorem b_X6_hold_L21 (e : Nat) (hd : 0 ≤ e) (v1 : Int32) (v4 : Int32) (m : ej_M) {x : (Unit × ej_M)} {res : Option Value × ej_H} {K : (Unit × ej_M) → Prop} (hf : f_X6_hold_L21 v1 v4 m = some x) (hK : K x) (h0 : ∀ q : (Unit × ej_M), K q → res = (none, (ej_sh, q.2))) : ej_Z cX6_hold 5 none RX6 "hold" (e + 1) 21 [(0, .ref 37), (1, .int v1), (4, .int v4)] [] (ej_sh, m) res :=
  oj_loop_Z (body := fun q : (Int32 × ej_M) => f_X6_hold_L21b v1 q.1 q.2) (P := fun q : (Int32 × ej_M) => ej_Z cX6_hold 5 none RX6 "hold" (e + 1) 21 [(0, .ref 37), (1, .int v1), (4, .int q.1)] [] (ej_sh, q.2) res) (K := K) (fun s x hb hl hr => b_X6_hold_L21b e hd v1  s.1 s.2 (K := fun x => (∀ s' : (Int32 × ej_M), x = Sum.inl s' → ej_Z cX6_hold 5 none RX6 "hold" (e + 1) 21 [(0, .ref 37), (1, .int v1), (4, .int s'.1)] [] (ej_sh, s'.2) res) ∧ ∀ e, x = Sum.inr e → K e) hb ⟨hl, hr⟩ (fun q hq => hq.1 q rfl) (fun q hq => h0 q (hq.2 _ rfl))) oj_FU (v4, m) x hf hK
def f_X6_hold (v1 : Int32) (v2 : Int32) (v3 : Int32) (m : ej_M) : Option (Unit × ej_M) :=
  (f_X10_lay 38 v1 v2 m).bind fun q1 =>
  (f_X10_lay 39 v1 v3 q1.2).bind fun q2 =>
  f_X6_hold_L21 v1 0 q2.2
set_option maxHeartbeats 4000000 in
set_option maxRecDepth 100000 in
theorem b_X6_hold (e : Nat) (hd : 0 ≤ e) (v1 : Int32) (v2 : Int32) (v3 : Int32) (m : ej_M) {x : (Unit × ej_M)} {res : Option Value × ej_H} {K : (Unit × ej_M) → Prop} (hf : f_X6_hold v1 v2 v3 m = some x) (hK : K x) (h0 : ∀ q : (Unit × ej_M), K q → res = (none, (ej_sh, q.2))) : ej_Z cX6_hold 5 none RX6 "hold" (e + 1) 0 [(0, .ref 37), (1, .int v1), (2, .int v2), (3, .int v3)] [] (ej_sh, m) res := by
  unfold f_X6_hold at hf
  refine z_aload_n (pc := 0) (i := 0) (j := 0) dX6_hold_0 rfl rfl ?_
  refine z_ogetR (pc := 1) dX6_hold_1 lf_RX6_11 sh_37 rfl rfl rfl ?_
  refine z_iload_n (pc := 4) (i := 1) (j := 1) dX6_hold_4 rfl rfl ?_
  refine z_iload_n (pc := 5) (i := 2) (j := 2) dX6_hold_5 rfl rfl ?_
  obtain ⟨q1, hq1, hf⟩ := Option.bind_eq_some_iff.mp hf
  refine z_oSv (pc := 6) (as := [.ref 38, .int v1, .int v2]) (rest := []) dX6_hold_6 lm_RX6_22 mf_X10_lay ms_X10_lay rfl rfl (Nat.le_of_ble_eq_true rfl) (c_X10_lay e (by omega) 38 v1 v2 m hq1) ?_
  refine z_aload_n (pc := 9) (i := 0) (j := 0) dX6_hold_9 rfl rfl ?_
  refine z_ogetR (pc := 10) dX6_hold_10 lf_RX6_15 sh_37 rfl rfl rfl ?_
  refine z_iload_n (pc := 13) (i := 1) (j := 1) dX6_hold_13 rfl rfl ?_
  refine z_iload_n (pc := 14) (i := 3) (j := 3) dX6_hold_14 rfl rfl ?_
  obtain ⟨q2, hq2, hf⟩ := Option.bind_eq_some_iff.mp hf
  refine z_oSv (pc := 15) (as := [.ref 39, .int v1, .int v3]) (rest := []) dX6_hold_15 lm_RX6_22 mf_X10_lay ms_X10_lay rfl rfl (Nat.le_of_ble_eq_true rfl) (c_X10_lay e (by omega) 39 v1 v3 q1.2 hq2) ?_
  refine z_iconst (pc := 18) dX6_hold_18 ki_0 ?_
  refine z_istore (pc := 19) (i := 4) (ls' := [(4, .int 0), (0, .ref 37), (1, .int v1), (2, .int v2), (3, .int v3)]) dX6_hold_19 (Nat.le_of_ble_eq_true rfl) rfl ?_
  exact z_pick [1, 2, 0] rfl (b_X6_hold_L21 e hd v1 0 q2.2 (K := K) hf hK  h0)
set_option maxHeartbeats 4000000 in
set_option maxRecDepth 100000 in
theorem c_X6_hold (d : Nat) (hd : 1 ≤ d) (v1 : Int32) (v2 : Int32) (v3 : Int32) (m : ej_M) {q : (Unit × ej_M)} (hf : f_X6_hold v1 v2 v3 m = some q) : ej_Ct yX6_hold cX6_hold 5 none d [.ref 37, .int v1, .int v2, .int v3] (ej_sh, m) ((none, (ej_sh, q.2)) : Option Value × ej_H) := by
  obtain ⟨e, rfl⟩ : ∃ e, d = e + 1 := ⟨d - 1, by omega⟩
  exact z_met (by decide +kernel) (Nat.le_of_ble_eq_true rfl) (b_X6_hold e (by omega) v1 v2 v3 m (K := fun z => ((none, (ej_sh, q.2)) : Option Value × ej_H) = (none, (ej_sh, z.2))) hf rfl (fun _ h => h))
def f_X10_keep_B45 (v2 : Int32) (s0 : Int32) (s1 : Int32) (m : ej_M) : Option (Int32 × ej_M) :=
  (f_X6_hold s1 s0 v2 m).bind fun q1 =>
  some (1, q1.2)
set_option maxHeartbeats 4000000 in
set_option maxRecDepth 100000 in
theorem b_X10_keep_B45 (e : Nat) (hd : 1 ≤ e) (v2 : Int32) (s0 : Int32) (s1 : Int32) (m : ej_M) {x : (Int32 × ej_M)} {res : Option Value × ej_H} {K : (Int32 × ej_M) → Prop} (hf : f_X10_keep_B45 v2 s0 s1 m = some x) (hK : K x) (h0 : ∀ q : (Int32 × ej_M), K q → res = (some (Value.int q.1), (ej_sh, q.2))) : ej_Z cX10_keep 3 (some .int) RX10 "keep" (e + 1) 45 [(2, .int v2)] [.int s0, .int s1, .ref 37] (ej_sh, m) res := by
  unfold f_X10_keep_B45 at hf
  refine z_iload_n (pc := 45) (i := 2) (j := 0) dX10_keep_45 rfl rfl ?_
  obtain ⟨q1, hq1, hf⟩ := Option.bind_eq_some_iff.mp hf
  refine z_oVv (pc := 46) (as := [.int s1, .int s0, .int v2]) (rest := []) dX10_keep_46 lm_RX10_266 mf_X6_hold mi_X6_hold mv_X6_hold rc_37 rfl rfl (Nat.le_of_ble_eq_true rfl) (c_X6_hold e (by omega) s1 s0 v2 m hq1) ?_
  refine z_iconst (pc := 49) dX10_keep_49 ki_1 ?_
  obtain rfl := Option.some.inj hf
  rw [h0 _ hK]
  exact z_iret dX10_keep_50 rfl rfl
def f_X10_keep_B29 (v1 : Int32) (v2 : Int32) (m : ej_M) : Option (Int32 × ej_M) :=
  if v2 = (-1) then
    f_X10_keep_B45 v2 (-2) v1 m
  else
    f_X10_keep_B45 v2 (-1) v1 m
set_option maxHeartbeats 4000000 in
set_option maxRecDepth 100000 in
theorem b_X10_keep_B29 (e : Nat) (hd : 1 ≤ e) (v1 : Int32) (v2 : Int32) (m : ej_M) {x : (Int32 × ej_M)} {res : Option Value × ej_H} {K : (Int32 × ej_M) → Prop} (hf : f_X10_keep_B29 v1 v2 m = some x) (hK : K x) (h0 : ∀ q : (Int32 × ej_M), K q → res = (some (Value.int q.1), (ej_sh, q.2))) : ej_Z cX10_keep 3 (some .int) RX10 "keep" (e + 1) 29 [(0, .ref 0), (1, .int v1), (2, .int v2)] [] (ej_sh, m) res := by
  unfold f_X10_keep_B29 at hf
  refine z_aload_n (pc := 29) (i := 0) (j := 0) dX10_keep_29 rfl rfl ?_
  refine z_ogetR (pc := 30) dX10_keep_30 lf_RX10_79 sh_0 rfl rfl rfl ?_
  refine z_iload_n (pc := 33) (i := 1) (j := 1) dX10_keep_33 rfl rfl ?_
  refine z_iload_n (pc := 34) (i := 2) (j := 2) dX10_keep_34 rfl rfl ?_
  refine z_iconst (pc := 35) dX10_keep_35 ki_n1 ?_
  refine z_icmp_ne (pc := 36) (tgt := 44) dX10_keep_36 (by decide) (fun hc => ?_) (fun hc => ?_)
  · rw [if_neg hc] at hf
    refine z_iconst (pc := 44) dX10_keep_44 ki_n1 ?_
    exact z_pick [2] rfl (b_X10_keep_B45 e hd v2 (-1) v1 m (K := K) hf hK  h0)
  · rw [if_pos hc] at hf
    refine z_bipush (pc := 39) dX10_keep_39 kb_n2 ?_
    refine z_goto (pc := 41) (tgt := 45) dX10_keep_41 (by decide) ?_
    exact z_pick [2] rfl (b_X10_keep_B45 e hd v2 (-2) v1 m (K := K) hf hK  h0)
def f_X10_keep (v1 : Int32) (v2 : Int32) (m : ej_M) : Option (Int32 × ej_M) :=
  (f_X6_has v1 m).bind fun q1 =>
  if q1.1 = 0 then
    some ((-1), q1.2)
  else
    if v2 = (-1) then
      f_X10_keep_B29 v1 v2 q1.2
    else
      (f_X0_has v2 q1.2).bind fun q2 =>
      if q2.1 = 0 then
        some ((-1), q2.2)
      else
        f_X10_keep_B29 v1 v2 q2.2
set_option maxHeartbeats 4000000 in
set_option maxRecDepth 100000 in
theorem b_X10_keep (e : Nat) (hd : 1 ≤ e) (v1 : Int32) (v2 : Int32) (m : ej_M) {x : (Int32 × ej_M)} {res : Option Value × ej_H} {K : (Int32 × ej_M) → Prop} (hf : f_X10_keep v1 v2 m = some x) (hK : K x) (h0 : ∀ q : (Int32 × ej_M), K q → res = (some (Value.int q.1), (ej_sh, q.2))) : ej_Z cX10_keep 3 (some .int) RX10 "keep" (e + 1) 0 [(0, .ref 0), (1, .int v1), (2, .int v2)] [] (ej_sh, m) res := by
  unfold f_X10_keep at hf
  refine z_aload_n (pc := 0) (i := 0) (j := 0) dX10_keep_0 rfl rfl ?_
  refine z_ogetR (pc := 1) dX10_keep_1 lf_RX10_79 sh_0 rfl rfl rfl ?_
  refine z_iload_n (pc := 4) (i := 1) (j := 1) dX10_keep_4 rfl rfl ?_
  obtain ⟨q1, hq1, hf⟩ := Option.bind_eq_some_iff.mp hf
  refine z_oVi (pc := 5) (as := [.int v1]) (rest := []) dX10_keep_5 lm_RX10_87 mf_X6_has mi_X6_has mv_X6_has rc_37 rfl rfl (Nat.le_of_ble_eq_true rfl) (c_X6_has e (by omega) v1 m hq1) ?_
  refine z_if_eq (pc := 8) (tgt := 27) dX10_keep_8 (by decide) (fun hc => ?_) (fun hc => ?_)
  · rw [if_pos hc] at hf
    refine z_iconst (pc := 27) dX10_keep_27 ki_n1 ?_
    obtain rfl := Option.some.inj hf
    rw [h0 _ hK]
    exact z_iret dX10_keep_28 rfl rfl
  · rw [if_neg hc] at hf
    refine z_iload_n (pc := 11) (i := 2) (j := 2) dX10_keep_11 rfl rfl ?_
    refine z_iconst (pc := 12) dX10_keep_12 ki_n1 ?_
    refine z_icmp_eq (pc := 13) (tgt := 29) dX10_keep_13 (by decide) (fun hc => ?_) (fun hc => ?_)
    · rw [if_pos hc] at hf
      exact z_pick [0, 1, 2] rfl (b_X10_keep_B29 e hd v1 v2 q1.2 (K := K) hf hK  h0)
    · rw [if_neg hc] at hf
      refine z_aload_n (pc := 16) (i := 0) (j := 0) dX10_keep_16 rfl rfl ?_
      refine z_ogetR (pc := 17) dX10_keep_17 lf_RX10_72 sh_0 rfl rfl rfl ?_
      refine z_iload_n (pc := 20) (i := 2) (j := 2) dX10_keep_20 rfl rfl ?_
      obtain ⟨q2, hq2, hf⟩ := Option.bind_eq_some_iff.mp hf
      refine z_oVi (pc := 21) (as := [.int v2]) (rest := []) dX10_keep_21 lm_RX10_265 mf_X0_has mi_X0_has mv_X0_has rc_34 rfl rfl (Nat.le_of_ble_eq_true rfl) (c_X0_has e (by omega) v2 q1.2 hq2) ?_
      refine z_if_ne (pc := 24) (tgt := 29) dX10_keep_24 (by decide) (fun hc => ?_) (fun hc => ?_)
      · rw [if_neg hc] at hf
        exact z_pick [0, 1, 2] rfl (b_X10_keep_B29 e hd v1 v2 q2.2 (K := K) hf hK  h0)
      · rw [if_pos hc] at hf
        refine z_iconst (pc := 27) dX10_keep_27 ki_n1 ?_
        obtain rfl := Option.some.inj hf
        rw [h0 _ hK]
        exact z_iret dX10_keep_28 rfl rfl
set_option maxHeartbeats 4000000 in
set_option maxRecDepth 100000 in
theorem c_X10_keep (d : Nat) (hd : 2 ≤ d) (v1 : Int32) (v2 : Int32) (m : ej_M) {q : (Int32 × ej_M)} (hf : f_X10_keep v1 v2 m = some q) : ej_Ct yX10_keep cX10_keep 3 (some .int) d [.ref 0, .int v1, .int v2] (ej_sh, m) ((some (Value.int q.1), (ej_sh, q.2)) : Option Value × ej_H) := by
  obtain ⟨e, rfl⟩ : ∃ e, d = e + 1 := ⟨d - 1, by omega⟩
  exact z_met (by decide +kernel) (Nat.le_of_ble_eq_true rfl) (b_X10_keep e (by omega) v1 v2 m (K := fun z => ((some (Value.int q.1), (ej_sh, q.2)) : Option Value × ej_H) = (some (Value.int z.1), (ej_sh, z.2))) hf rfl (fun _ h => h))
def f_X11_keep_B22 (v1 : Int32) (v2 : Int32) (m : ej_M) : Option (Int32 × ej_M) :=
  (oj_st 0 m 66 v1 v2).bind fun m1 =>
  some (1, m1)
set_option maxHeartbeats 4000000 in
set_option maxRecDepth 100000 in
theorem b_X11_keep_B22 (e : Nat) (hd : 1 ≤ e) (v1 : Int32) (v2 : Int32) (m : ej_M) {x : (Int32 × ej_M)} {res : Option Value × ej_H} {K : (Int32 × ej_M) → Prop} (hf : f_X11_keep_B22 v1 v2 m = some x) (hK : K x) (h0 : ∀ q : (Int32 × ej_M), K q → res = (some (Value.int q.1), (ej_sh, q.2))) : ej_Z cX11_keep 3 (some .int) RX11 "keep" (e + 1) 22 [(0, .ref 41), (1, .int v1), (2, .int v2)] [] (ej_sh, m) res := by
  unfold f_X11_keep_B22 at hf
  refine z_aload_n (pc := 22) (i := 0) (j := 0) dX11_keep_22 rfl rfl ?_
  refine z_ogetR (pc := 23) dX11_keep_23 lf_RX11_84 sh_41 rfl rfl rfl ?_
  refine z_iload_n (pc := 26) (i := 1) (j := 1) dX11_keep_26 rfl rfl ?_
  refine z_iload_n (pc := 27) (i := 2) (j := 2) dX11_keep_27 rfl rfl ?_
  obtain ⟨m1, hm1, hf⟩ := Option.bind_eq_some_iff.mp hf
  refine z_oiast (pc := 28) dX11_keep_28 hm1 ?_
  refine z_iconst (pc := 29) dX11_keep_29 ki_1 ?_
  obtain rfl := Option.some.inj hf
  rw [h0 _ hK]
  exact z_iret dX11_keep_30 rfl rfl
def f_X11_keep (v1 : Int32) (v2 : Int32) (m : ej_M) : Option (Int32 × ej_M) :=
  (f_X11_isShelf v1 m).bind fun q1 =>
  if q1.1 = 0 then
    some ((-1), q1.2)
  else
    if v2 = (-1) then
      f_X11_keep_B22 v1 v2 q1.2
    else
      (f_X11_isBody v2 q1.2).bind fun q2 =>
      if q2.1 = 0 then
        some ((-1), q2.2)
      else
        f_X11_keep_B22 v1 v2 q2.2
set_option maxHeartbeats 4000000 in
set_option maxRecDepth 100000 in
theorem b_X11_keep (e : Nat) (hd : 1 ≤ e) (v1 : Int32) (v2 : Int32) (m : ej_M) {x : (Int32 × ej_M)} {res : Option Value × ej_H} {K : (Int32 × ej_M) → Prop} (hf : f_X11_keep v1 v2 m = some x) (hK : K x) (h0 : ∀ q : (Int32 × ej_M), K q → res = (some (Value.int q.1), (ej_sh, q.2))) : ej_Z cX11_keep 3 (some .int) RX11 "keep" (e + 1) 0 [(0, .ref 41), (1, .int v1), (2, .int v2)] [] (ej_sh, m) res := by
  unfold f_X11_keep at hf
  refine z_iload_n (pc := 0) (i := 1) (j := 1) dX11_keep_0 rfl rfl ?_
  obtain ⟨q1, hq1, hf⟩ := Option.bind_eq_some_iff.mp hf
  refine z_oSi (pc := 1) (as := [.int v1]) (rest := []) dX11_keep_1 lm_RX11_115 mf_X11_isShelf ms_X11_isShelf rfl rfl (Nat.le_of_ble_eq_true rfl) (c_X11_isShelf e (by omega) v1 m hq1) ?_
  refine z_if_eq (pc := 4) (tgt := 20) dX11_keep_4 (by decide) (fun hc => ?_) (fun hc => ?_)
  · rw [if_pos hc] at hf
    refine z_iconst (pc := 20) dX11_keep_20 ki_n1 ?_
    obtain rfl := Option.some.inj hf
    rw [h0 _ hK]
    exact z_iret dX11_keep_21 rfl rfl
  · rw [if_neg hc] at hf
    refine z_iload_n (pc := 7) (i := 2) (j := 2) dX11_keep_7 rfl rfl ?_
    refine z_iconst (pc := 8) dX11_keep_8 ki_n1 ?_
    refine z_icmp_eq (pc := 9) (tgt := 22) dX11_keep_9 (by decide) (fun hc => ?_) (fun hc => ?_)
    · rw [if_pos hc] at hf
      exact z_pick [0, 1, 2] rfl (b_X11_keep_B22 e hd v1 v2 q1.2 (K := K) hf hK  h0)
    · rw [if_neg hc] at hf
      refine z_aload_n (pc := 12) (i := 0) (j := 0) dX11_keep_12 rfl rfl ?_
      refine z_iload_n (pc := 13) (i := 2) (j := 2) dX11_keep_13 rfl rfl ?_
      obtain ⟨q2, hq2, hf⟩ := Option.bind_eq_some_iff.mp hf
      refine z_oVi (pc := 14) (as := [.int v2]) (rest := []) dX11_keep_14 lm_RX11_380 mf_X11_isBody mi_X11_isBody mv_X11_isBody rc_41 rfl rfl (Nat.le_of_ble_eq_true rfl) (c_X11_isBody e (by omega) v2 q1.2 hq2) ?_
      refine z_if_ne (pc := 17) (tgt := 22) dX11_keep_17 (by decide) (fun hc => ?_) (fun hc => ?_)
      · rw [if_neg hc] at hf
        exact z_pick [0, 1, 2] rfl (b_X11_keep_B22 e hd v1 v2 q2.2 (K := K) hf hK  h0)
      · rw [if_pos hc] at hf
        refine z_iconst (pc := 20) dX11_keep_20 ki_n1 ?_
        obtain rfl := Option.some.inj hf
        rw [h0 _ hK]
        exact z_iret dX11_keep_21 rfl rfl
set_option maxHeartbeats 4000000 in
set_option maxRecDepth 100000 in
theorem c_X11_keep (d : Nat) (hd : 2 ≤ d) (v1 : Int32) (v2 : Int32) (m : ej_M) {q : (Int32 × ej_M)} (hf : f_X11_keep v1 v2 m = some q) : ej_Ct yX11_keep cX11_keep 3 (some .int) d [.ref 41, .int v1, .int v2] (ej_sh, m) ((some (Value.int q.1), (ej_sh, q.2)) : Option Value × ej_H) := by
  obtain ⟨e, rfl⟩ : ∃ e, d = e + 1 := ⟨d - 1, by omega⟩
  exact z_met (by decide +kernel) (Nat.le_of_ble_eq_true rfl) (b_X11_keep e (by omega) v1 v2 m (K := fun z => ((some (Value.int q.1), (ej_sh, q.2)) : Option Value × ej_H) = (some (Value.int z.1), (ej_sh, z.2))) hf rfl (fun _ h => h))
def f_X10_row (v1 : Int32) (v2 : Int32) (v3 : Int32) (m : ej_M) : Option (Int32 × ej_M) :=
  (f_X6_has v1 m).bind fun q1 =>
  if q1.1 = 0 then
    some ((-1), q1.2)
  else
    if v2 < 0 then
      some ((-1), q1.2)
    else
      if 5 ≤ v2 then
        some ((-1), q1.2)
      else
        if v3 ≤ 60 then
          if 0 ≤ v3 then
            (f_X6_hold v1 v2 v3 q1.2).bind fun q2 =>
            some (1, q2.2)
          else
            some ((-14), q1.2)
        else
          some ((-1), q1.2)
set_option maxHeartbeats 4000000 in
set_option maxRecDepth 100000 in
theorem b_X10_row (e : Nat) (hd : 1 ≤ e) (v1 : Int32) (v2 : Int32) (v3 : Int32) (m : ej_M) {x : (Int32 × ej_M)} {res : Option Value × ej_H} {K : (Int32 × ej_M) → Prop} (hf : f_X10_row v1 v2 v3 m = some x) (hK : K x) (h0 : ∀ q : (Int32 × ej_M), K q → res = (some (Value.int q.1), (ej_sh, q.2))) : ej_Z cX10_row 4 (some .int) RX10 "row" (e + 1) 0 [(0, .ref 0), (1, .int v1), (2, .int v2), (3, .int v3)] [] (ej_sh, m) res := by
  unfold f_X10_row at hf
  refine z_aload_n (pc := 0) (i := 0) (j := 0) dX10_row_0 rfl rfl ?_
  refine z_ogetR (pc := 1) dX10_row_1 lf_RX10_79 sh_0 rfl rfl rfl ?_
  refine z_iload_n (pc := 4) (i := 1) (j := 1) dX10_row_4 rfl rfl ?_
  obtain ⟨q1, hq1, hf⟩ := Option.bind_eq_some_iff.mp hf
  refine z_oVi (pc := 5) (as := [.int v1]) (rest := []) dX10_row_5 lm_RX10_87 mf_X6_has mi_X6_has mv_X6_has rc_37 rfl rfl (Nat.le_of_ble_eq_true rfl) (c_X6_has e (by omega) v1 m hq1) ?_
  refine z_if_eq (pc := 8) (tgt := 26) dX10_row_8 (by decide) (fun hc => ?_) (fun hc => ?_)
  · rw [if_pos hc] at hf
    refine z_iconst (pc := 26) dX10_row_26 ki_n1 ?_
    obtain rfl := Option.some.inj hf
    rw [h0 _ hK]
    exact z_iret dX10_row_27 rfl rfl
  · rw [if_neg hc] at hf
    refine z_iload_n (pc := 11) (i := 2) (j := 2) dX10_row_11 rfl rfl ?_
    refine z_if_lt (pc := 12) (tgt := 26) dX10_row_12 (by decide) (fun hc => ?_) (fun hc => ?_)
    · rw [if_pos hc] at hf
      refine z_iconst (pc := 26) dX10_row_26 ki_n1 ?_
      obtain rfl := Option.some.inj hf
      rw [h0 _ hK]
      exact z_iret dX10_row_27 rfl rfl
    · rw [if_neg hc] at hf
      refine z_iload_n (pc := 15) (i := 2) (j := 2) dX10_row_15 rfl rfl ?_
      refine z_iconst (pc := 16) dX10_row_16 ki_5 ?_
      refine z_icmp_ge (pc := 17) (tgt := 26) dX10_row_17 (by decide) (fun hc => ?_) (fun hc => ?_)
      · rw [if_pos hc] at hf
        refine z_iconst (pc := 26) dX10_row_26 ki_n1 ?_
        obtain rfl := Option.some.inj hf
        rw [h0 _ hK]
        exact z_iret dX10_row_27 rfl rfl
      · rw [if_neg hc] at hf
        refine z_iload_n (pc := 20) (i := 3) (j := 3) dX10_row_20 rfl rfl ?_
        refine z_bipush (pc := 21) dX10_row_21 kb_60 ?_
        refine z_icmp_le (pc := 23) (tgt := 28) dX10_row_23 (by decide) (fun hc => ?_) (fun hc => ?_)
        · rw [if_pos hc] at hf
          refine z_iload_n (pc := 28) (i := 3) (j := 3) dX10_row_28 rfl rfl ?_
          refine z_if_ge (pc := 29) (tgt := 35) dX10_row_29 (by decide) (fun hc => ?_) (fun hc => ?_)
          · rw [if_pos hc] at hf
            refine z_aload_n (pc := 35) (i := 0) (j := 0) dX10_row_35 rfl rfl ?_
            refine z_ogetR (pc := 36) dX10_row_36 lf_RX10_79 sh_0 rfl rfl rfl ?_
            refine z_iload_n (pc := 39) (i := 1) (j := 1) dX10_row_39 rfl rfl ?_
            refine z_iload_n (pc := 40) (i := 2) (j := 2) dX10_row_40 rfl rfl ?_
            refine z_iload_n (pc := 41) (i := 3) (j := 3) dX10_row_41 rfl rfl ?_
            obtain ⟨q2, hq2, hf⟩ := Option.bind_eq_some_iff.mp hf
            refine z_oVv (pc := 42) (as := [.int v1, .int v2, .int v3]) (rest := []) dX10_row_42 lm_RX10_266 mf_X6_hold mi_X6_hold mv_X6_hold rc_37 rfl rfl (Nat.le_of_ble_eq_true rfl) (c_X6_hold e (by omega) v1 v2 v3 q1.2 hq2) ?_
            refine z_iconst (pc := 45) dX10_row_45 ki_1 ?_
            obtain rfl := Option.some.inj hf
            rw [h0 _ hK]
            exact z_iret dX10_row_46 rfl rfl
          · rw [if_neg hc] at hf
            refine z_bipush (pc := 32) dX10_row_32 kb_n14 ?_
            obtain rfl := Option.some.inj hf
            rw [h0 _ hK]
            exact z_iret dX10_row_34 rfl rfl
        · rw [if_neg hc] at hf
          refine z_iconst (pc := 26) dX10_row_26 ki_n1 ?_
          obtain rfl := Option.some.inj hf
          rw [h0 _ hK]
          exact z_iret dX10_row_27 rfl rfl
set_option maxHeartbeats 4000000 in
set_option maxRecDepth 100000 in
theorem c_X10_row (d : Nat) (hd : 2 ≤ d) (v1 : Int32) (v2 : Int32) (v3 : Int32) (m : ej_M) {q : (Int32 × ej_M)} (hf : f_X10_row v1 v2 v3 m = some q) : ej_Ct yX10_row cX10_row 4 (some .int) d [.ref 0, .int v1, .int v2, .int v3] (ej_sh, m) ((some (Value.int q.1), (ej_sh, q.2)) : Option Value × ej_H) := by
  obtain ⟨e, rfl⟩ : ∃ e, d = e + 1 := ⟨d - 1, by omega⟩
  exact z_met (by decide +kernel) (Nat.le_of_ble_eq_true rfl) (b_X10_row e (by omega) v1 v2 v3 m (K := fun z => ((some (Value.int q.1), (ej_sh, q.2)) : Option Value × ej_H) = (some (Value.int z.1), (ej_sh, z.2))) hf rfl (fun _ h => h))
def f_X11_row_L54b (v1 : Int32) (v4 : Int32) (m : ej_M) : Option ((Int32 × ej_M) ⊕ (Int32 × ej_M)) :=
  if ((60 * v1) + 60) ≤ v4 then
    some (Sum.inr (1, m))
  else
    (oj_sl m 68 v4 (0 : Int64)).bind fun m1 =>
    some (Sum.inl ((v4 + 1), m1))
set_option maxHeartbeats 4000000 in
set_option maxRecDepth 100000 in
theorem b_X11_row_L54b (e : Nat) (hd : 1 ≤ e) (v1 : Int32) (v4 : Int32) (m : ej_M) {x : ((Int32 × ej_M) ⊕ (Int32 × ej_M))} {res : Option Value × ej_H} {K : ((Int32 × ej_M) ⊕ (Int32 × ej_M)) → Prop} (hf : f_X11_row_L54b v1 v4 m = some x) (hK : K x) (h1 : ∀ q : (Int32 × ej_M), K (Sum.inl q) → ej_Z cX11_row 5 (some .int) RX11 "row" (e + 1) 54 [(0, .ref 41), (1, .int v1), (4, .int q.1)] [] (ej_sh, q.2) res) (h0 : ∀ q : (Int32 × ej_M), K (Sum.inr q) → res = (some (Value.int q.1), (ej_sh, q.2))) : ej_Z cX11_row 5 (some .int) RX11 "row" (e + 1) 54 [(0, .ref 41), (1, .int v1), (4, .int v4)] [] (ej_sh, m) res := by
  unfold f_X11_row_L54b at hf
  refine z_iload (pc := 54) (i := 4) (j := 2) dX11_row_54 rfl ?_
  refine z_bipush (pc := 56) dX11_row_56 kb_60 ?_
  refine z_iload_n (pc := 58) (i := 1) (j := 1) dX11_row_58 rfl rfl ?_
  refine z_imul (pc := 59) dX11_row_59 ?_
  refine z_bipush (pc := 60) dX11_row_60 kb_60 ?_
  refine z_iadd (pc := 62) dX11_row_62 ?_
  refine z_icmp_ge (pc := 63) (tgt := 80) dX11_row_63 (by decide) (fun hc => ?_) (fun hc => ?_)
  · rw [if_pos hc] at hf
    refine z_iconst (pc := 80) dX11_row_80 ki_1 ?_
    obtain rfl := Option.some.inj hf
    rw [h0 _ hK]
    exact z_iret dX11_row_81 rfl rfl
  · rw [if_neg hc] at hf
    refine z_aload_n (pc := 66) (i := 0) (j := 0) dX11_row_66 rfl rfl ?_
    refine z_ogetR (pc := 67) dX11_row_67 lf_RX11_90 sh_41 rfl rfl rfl ?_
    refine z_iload (pc := 70) (i := 4) (j := 2) dX11_row_70 rfl ?_
    refine z_lconst (pc := 72) dX11_row_72 kl_0 ?_
    obtain ⟨m1, hm1, hf⟩ := Option.bind_eq_some_iff.mp hf
    refine z_olast (pc := 73) dX11_row_73 hm1 ?_
    refine z_iinc (pc := 74) (j := 2) (ls' := [(4, .int (v4 + 1)), (0, .ref 41), (1, .int v1)]) dX11_row_74 rfl ki_1 (Nat.le_of_ble_eq_true rfl) rfl ?_
    refine z_goto (pc := 77) (tgt := 54) dX11_row_77 (by decide) ?_
    obtain rfl := Option.some.inj hf
    exact z_pick (ls' := [(0, .ref 41), (1, .int v1), (4, .int (v4 + 1))]) [1, 2, 0] rfl (h1 ((v4 + 1), m1) hK)
def f_X11_row_L54 (v1 : Int32) (v4 : Int32) (m : ej_M) : Option (Int32 × ej_M) := oj_loop (fun q : (Int32 × ej_M) => f_X11_row_L54b v1 q.1 q.2) oj_FU (v4, m)
set_option maxHeartbeats 4000000 in
set_option maxRecDepth 100000 in
theorem b_X11_row_L54 (e : Nat) (hd : 1 ≤ e) (v1 : Int32) (v4 : Int32) (m : ej_M) {x : (Int32 × ej_M)} {res : Option Value × ej_H} {K : (Int32 × ej_M) → Prop} (hf : f_X11_row_L54 v1 v4 m = some x) (hK : K x) (h0 : ∀ q : (Int32 × ej_M), K q → res = (some (Value.int q.1), (ej_sh, q.2))) : ej_Z cX11_row 5 (some .int) RX11 "row" (e + 1) 54 [(0, .ref 41), (1, .int v1), (4, .int v4)] [] (ej_sh, m) res :=
  oj_loop_Z (body := fun q : (Int32 × ej_M) => f_X11_row_L54b v1 q.1 q.2) (P := fun q : (Int32 × ej_M) => ej_Z cX11_row 5 (some .int) RX11 "row" (e + 1) 54 [(0, .ref 41), (1, .int v1), (4, .int q.1)] [] (ej_sh, q.2) res) (K := K) (fun s x hb hl hr => b_X11_row_L54b e hd v1  s.1 s.2 (K := fun x => (∀ s' : (Int32 × ej_M), x = Sum.inl s' → ej_Z cX11_row 5 (some .int) RX11 "row" (e + 1) 54 [(0, .ref 41), (1, .int v1), (4, .int s'.1)] [] (ej_sh, s'.2) res) ∧ ∀ e, x = Sum.inr e → K e) hb ⟨hl, hr⟩ (fun q hq => hq.1 q rfl) (fun q hq => h0 q (hq.2 _ rfl))) oj_FU (v4, m) x hf hK
def f_X11_row (v1 : Int32) (v2 : Int32) (v3 : Int32) (m : ej_M) : Option (Int32 × ej_M) :=
  (f_X11_isShelf v1 m).bind fun q1 =>
  if q1.1 = 0 then
    some ((-1), q1.2)
  else
    (f_X11_in v2 0 4 q1.2).bind fun q2 =>
    if q2.1 = 0 then
      some ((-1), q2.2)
    else
      if v3 ≤ 60 then
        if 0 ≤ v3 then
          (oj_st 0 q2.2 66 v1 ((-2) - v2)).bind fun m3 =>
          (oj_st 0 m3 67 v1 v3).bind fun m4 =>
          f_X11_row_L54 v1 (60 * v1) m4
        else
          some ((-14), q2.2)
      else
        some ((-1), q2.2)
set_option maxHeartbeats 4000000 in
set_option maxRecDepth 100000 in
theorem b_X11_row (e : Nat) (hd : 1 ≤ e) (v1 : Int32) (v2 : Int32) (v3 : Int32) (m : ej_M) {x : (Int32 × ej_M)} {res : Option Value × ej_H} {K : (Int32 × ej_M) → Prop} (hf : f_X11_row v1 v2 v3 m = some x) (hK : K x) (h0 : ∀ q : (Int32 × ej_M), K q → res = (some (Value.int q.1), (ej_sh, q.2))) : ej_Z cX11_row 5 (some .int) RX11 "row" (e + 1) 0 [(0, .ref 41), (1, .int v1), (2, .int v2), (3, .int v3)] [] (ej_sh, m) res := by
  unfold f_X11_row at hf
  refine z_iload_n (pc := 0) (i := 1) (j := 1) dX11_row_0 rfl rfl ?_
  obtain ⟨q1, hq1, hf⟩ := Option.bind_eq_some_iff.mp hf
  refine z_oSi (pc := 1) (as := [.int v1]) (rest := []) dX11_row_1 lm_RX11_115 mf_X11_isShelf ms_X11_isShelf rfl rfl (Nat.le_of_ble_eq_true rfl) (c_X11_isShelf e (by omega) v1 m hq1) ?_
  refine z_if_eq (pc := 4) (tgt := 22) dX11_row_4 (by decide) (fun hc => ?_) (fun hc => ?_)
  · rw [if_pos hc] at hf
    refine z_iconst (pc := 22) dX11_row_22 ki_n1 ?_
    obtain rfl := Option.some.inj hf
    rw [h0 _ hK]
    exact z_iret dX11_row_23 rfl rfl
  · rw [if_neg hc] at hf
    refine z_iload_n (pc := 7) (i := 2) (j := 2) dX11_row_7 rfl rfl ?_
    refine z_iconst (pc := 8) dX11_row_8 ki_0 ?_
    refine z_iconst (pc := 9) dX11_row_9 ki_4 ?_
    obtain ⟨q2, hq2, hf⟩ := Option.bind_eq_some_iff.mp hf
    refine z_oSi (pc := 10) (as := [.int v2, .int 0, .int 4]) (rest := []) dX11_row_10 lm_RX11_104 mf_X11_in ms_X11_in rfl rfl (Nat.le_of_ble_eq_true rfl) (c_X11_in e (by omega) v2 0 4 q1.2 hq2) ?_
    refine z_if_eq (pc := 13) (tgt := 22) dX11_row_13 (by decide) (fun hc => ?_) (fun hc => ?_)
    · rw [if_pos hc] at hf
      refine z_iconst (pc := 22) dX11_row_22 ki_n1 ?_
      obtain rfl := Option.some.inj hf
      rw [h0 _ hK]
      exact z_iret dX11_row_23 rfl rfl
    · rw [if_neg hc] at hf
      refine z_iload_n (pc := 16) (i := 3) (j := 3) dX11_row_16 rfl rfl ?_
      refine z_bipush (pc := 17) dX11_row_17 kb_60 ?_
      refine z_icmp_le (pc := 19) (tgt := 24) dX11_row_19 (by decide) (fun hc => ?_) (fun hc => ?_)
      · rw [if_pos hc] at hf
        refine z_iload_n (pc := 24) (i := 3) (j := 3) dX11_row_24 rfl rfl ?_
        refine z_if_ge (pc := 25) (tgt := 31) dX11_row_25 (by decide) (fun hc => ?_) (fun hc => ?_)
        · rw [if_pos hc] at hf
          refine z_aload_n (pc := 31) (i := 0) (j := 0) dX11_row_31 rfl rfl ?_
          refine z_ogetR (pc := 32) dX11_row_32 lf_RX11_84 sh_41 rfl rfl rfl ?_
          refine z_iload_n (pc := 35) (i := 1) (j := 1) dX11_row_35 rfl rfl ?_
          refine z_bipush (pc := 36) dX11_row_36 kb_n2 ?_
          refine z_iload_n (pc := 38) (i := 2) (j := 2) dX11_row_38 rfl rfl ?_
          refine z_isub (pc := 39) dX11_row_39 ?_
          obtain ⟨m3, hm3, hf⟩ := Option.bind_eq_some_iff.mp hf
          refine z_oiast (pc := 40) dX11_row_40 hm3 ?_
          refine z_aload_n (pc := 41) (i := 0) (j := 0) dX11_row_41 rfl rfl ?_
          refine z_ogetR (pc := 42) dX11_row_42 lf_RX11_87 sh_41 rfl rfl rfl ?_
          refine z_iload_n (pc := 45) (i := 1) (j := 1) dX11_row_45 rfl rfl ?_
          refine z_iload_n (pc := 46) (i := 3) (j := 3) dX11_row_46 rfl rfl ?_
          obtain ⟨m4, hm4, hf⟩ := Option.bind_eq_some_iff.mp hf
          refine z_oiast (pc := 47) dX11_row_47 hm4 ?_
          refine z_bipush (pc := 48) dX11_row_48 kb_60 ?_
          refine z_iload_n (pc := 50) (i := 1) (j := 1) dX11_row_50 rfl rfl ?_
          refine z_imul (pc := 51) dX11_row_51 ?_
          refine z_istore (pc := 52) (i := 4) (ls' := [(4, .int (60 * v1)), (0, .ref 41), (1, .int v1), (2, .int v2), (3, .int v3)]) dX11_row_52 (Nat.le_of_ble_eq_true rfl) rfl ?_
          exact z_pick [1, 2, 0] rfl (b_X11_row_L54 e hd v1 (60 * v1) m4 (K := K) hf hK  h0)
        · rw [if_neg hc] at hf
          refine z_bipush (pc := 28) dX11_row_28 kb_n14 ?_
          obtain rfl := Option.some.inj hf
          rw [h0 _ hK]
          exact z_iret dX11_row_30 rfl rfl
      · rw [if_neg hc] at hf
        refine z_iconst (pc := 22) dX11_row_22 ki_n1 ?_
        obtain rfl := Option.some.inj hf
        rw [h0 _ hK]
        exact z_iret dX11_row_23 rfl rfl
set_option maxHeartbeats 4000000 in
set_option maxRecDepth 100000 in
theorem c_X11_row (d : Nat) (hd : 2 ≤ d) (v1 : Int32) (v2 : Int32) (v3 : Int32) (m : ej_M) {q : (Int32 × ej_M)} (hf : f_X11_row v1 v2 v3 m = some q) : ej_Ct yX11_row cX11_row 5 (some .int) d [.ref 41, .int v1, .int v2, .int v3] (ej_sh, m) ((some (Value.int q.1), (ej_sh, q.2)) : Option Value × ej_H) := by
  obtain ⟨e, rfl⟩ : ∃ e, d = e + 1 := ⟨d - 1, by omega⟩
  exact z_met (by decide +kernel) (Nat.le_of_ble_eq_true rfl) (b_X11_row e (by omega) v1 v2 v3 m (K := fun z => ((some (Value.int q.1), (ej_sh, q.2)) : Option Value × ej_H) = (some (Value.int z.1), (ej_sh, z.2))) hf rfl (fun _ h => h))
def f_X6_narrowed (v0 : Int32) (v1 : Int64) (m : ej_M) : Option (Int64 × ej_M) :=
  if v0 = 0 then
    some ((Int32.toInt64 ((Int32.toInt8 (Int64.toInt32 v1)).toInt32)), m)
  else
    if v0 = 1 then
      some ((Int32.toInt64 ((Int32.toInt16 (Int64.toInt32 v1)).toInt32)), m)
    else
      if v0 = 2 then
        some ((Int32.toInt64 (Int64.toInt32 v1)), m)
      else
        if v0 = 3 then
          some (v1, m)
        else
          if (lg_cmp v1 (0 : Int64)) = 0 then
            some ((0 : Int64), m)
          else
            some ((1 : Int64), m)
set_option maxHeartbeats 4000000 in
set_option maxRecDepth 100000 in
theorem b_X6_narrowed (d : Nat) (v0 : Int32) (v1 : Int64) (m : ej_M) {x : (Int64 × ej_M)} {res : Option Value × ej_H} {K : (Int64 × ej_M) → Prop} (hf : f_X6_narrowed v0 v1 m = some x) (hK : K x) (h0 : ∀ q : (Int64 × ej_M), K q → res = (some (Value.long q.1), (ej_sh, q.2))) : ej_Z cX6_narrowed 3 (some .long) RX6 "narrowed" d 0 [(0, .int v0), (1, .long v1)] [] (ej_sh, m) res := by
  unfold f_X6_narrowed at hf
  refine z_iload_n (pc := 0) (i := 0) (j := 0) dX6_narrowed_0 rfl rfl ?_
  by_cases hs0 : v0 = 0
  · rw [if_pos hs0] at hf
    refine z_tabIn (pc := 1) (off := 31) (tgt := 32) dX6_narrowed_1 (by rw [hs0]; decide) (by rw [hs0]; decide) (by rw [hs0]; rfl) (by decide) ?_
    refine z_lload_n (pc := 32) (i := 1) (j := 1) dX6_narrowed_32 rfl rfl ?_
    refine z_l2i (pc := 33) dX6_narrowed_33 ?_
    refine z_i2b (pc := 34) dX6_narrowed_34 ?_
    refine z_i2l (pc := 35) dX6_narrowed_35 ?_
    obtain rfl := Option.some.inj hf
    rw [h0 _ hK]
    exact z_lret dX6_narrowed_36 rfl
  · rw [if_neg hs0] at hf
    by_cases hs1 : v0 = 1
    · rw [if_pos hs1] at hf
      refine z_tabIn (pc := 1) (off := 36) (tgt := 37) dX6_narrowed_1 (by rw [hs1]; decide) (by rw [hs1]; decide) (by rw [hs1]; rfl) (by decide) ?_
      refine z_lload_n (pc := 37) (i := 1) (j := 1) dX6_narrowed_37 rfl rfl ?_
      refine z_l2i (pc := 38) dX6_narrowed_38 ?_
      refine z_i2s (pc := 39) dX6_narrowed_39 ?_
      refine z_i2l (pc := 40) dX6_narrowed_40 ?_
      obtain rfl := Option.some.inj hf
      rw [h0 _ hK]
      exact z_lret dX6_narrowed_41 rfl
    · rw [if_neg hs1] at hf
      by_cases hs2 : v0 = 2
      · rw [if_pos hs2] at hf
        refine z_tabIn (pc := 1) (off := 41) (tgt := 42) dX6_narrowed_1 (by rw [hs2]; decide) (by rw [hs2]; decide) (by rw [hs2]; rfl) (by decide) ?_
        refine z_lload_n (pc := 42) (i := 1) (j := 1) dX6_narrowed_42 rfl rfl ?_
        refine z_l2i (pc := 43) dX6_narrowed_43 ?_
        refine z_i2l (pc := 44) dX6_narrowed_44 ?_
        obtain rfl := Option.some.inj hf
        rw [h0 _ hK]
        exact z_lret dX6_narrowed_45 rfl
      · rw [if_neg hs2] at hf
        by_cases hs3 : v0 = 3
        · rw [if_pos hs3] at hf
          refine z_tabIn (pc := 1) (off := 45) (tgt := 46) dX6_narrowed_1 (by rw [hs3]; decide) (by rw [hs3]; decide) (by rw [hs3]; rfl) (by decide) ?_
          refine z_lload_n (pc := 46) (i := 1) (j := 1) dX6_narrowed_46 rfl rfl ?_
          obtain rfl := Option.some.inj hf
          rw [h0 _ hK]
          exact z_lret dX6_narrowed_47 rfl
        · rw [if_neg hs3] at hf
          refine z_tabD (pc := 1) (tgt := 48) dX6_narrowed_1 (by decide) (fun k hk => ?_) (by decide) ?_
          · have hk9 : k = 0 ∨ k = 1 ∨ k = 2 ∨ k = 3 := by have hk8 : k < 4 := hk; omega
            rcases hk9 with rfl | rfl | rfl | rfl
            · exact Or.inr (by have := lv_neT hs0 (show (0 : Int32).toInt = 0 by decide); omega)
            · exact Or.inr (by have := lv_neT hs1 (show (1 : Int32).toInt = 1 by decide); omega)
            · exact Or.inr (by have := lv_neT hs2 (show (2 : Int32).toInt = 2 by decide); omega)
            · exact Or.inr (by have := lv_neT hs3 (show (3 : Int32).toInt = 3 by decide); omega)
          refine z_lload_n (pc := 48) (i := 1) (j := 1) dX6_narrowed_48 rfl rfl ?_
          refine z_lconst (pc := 49) dX6_narrowed_49 kl_0 ?_
          refine z_lcmp (pc := 50) dX6_narrowed_50 ?_
          refine z_if_eq (pc := 51) (tgt := 58) dX6_narrowed_51 (by decide) (fun hc => ?_) (fun hc => ?_)
          · rw [if_pos hc] at hf
            refine z_lconst (pc := 58) dX6_narrowed_58 kl_0 ?_
            obtain rfl := Option.some.inj hf
            rw [h0 _ hK]
            exact z_lret dX6_narrowed_59 rfl
          · rw [if_neg hc] at hf
            refine z_lconst (pc := 54) dX6_narrowed_54 kl_1 ?_
            refine z_goto (pc := 55) (tgt := 59) dX6_narrowed_55 (by decide) ?_
            obtain rfl := Option.some.inj hf
            rw [h0 _ hK]
            exact z_lret dX6_narrowed_59 rfl
set_option maxHeartbeats 4000000 in
set_option maxRecDepth 100000 in
theorem c_X6_narrowed (d : Nat) (hd : 0 ≤ d) (v0 : Int32) (v1 : Int64) (m : ej_M) {q : (Int64 × ej_M)} (hf : f_X6_narrowed v0 v1 m = some q) : ej_Ct yX6_narrowed cX6_narrowed 3 (some .long) d [.int v0, .long v1] (ej_sh, m) ((some (Value.long q.1), (ej_sh, q.2)) : Option Value × ej_H) := by
  exact z_met (by decide +kernel) (Nat.le_of_ble_eq_true rfl) (b_X6_narrowed d v0 v1 m (K := fun z => ((some (Value.long q.1), (ej_sh, q.2)) : Option Value × ej_H) = (some (Value.long z.1), (ej_sh, z.2))) hf rfl (fun _ h => h))
def f_X6_enter (v1 : Int32) (v2 : Int32) (v3 : Int64) (m : ej_M) : Option (Unit × ej_M) :=
  (f_X10_at 38 v1 m).bind fun q1 =>
  (f_X6_narrowed q1.1 v3 q1.2).bind fun q2 =>
  (f_X6_store v1 v2 q2.1 q2.2).bind fun q3 =>
  some ((), q3.2)
set_option maxHeartbeats 4000000 in
set_option maxRecDepth 100000 in
theorem b_X6_enter (e : Nat) (hd : 0 ≤ e) (v1 : Int32) (v2 : Int32) (v3 : Int64) (m : ej_M) {x : (Unit × ej_M)} {res : Option Value × ej_H} {K : (Unit × ej_M) → Prop} (hf : f_X6_enter v1 v2 v3 m = some x) (hK : K x) (h0 : ∀ q : (Unit × ej_M), K q → res = (none, (ej_sh, q.2))) : ej_Z cX6_enter 5 none RX6 "enter" (e + 1) 0 [(0, .ref 37), (1, .int v1), (2, .int v2), (3, .long v3)] [] (ej_sh, m) res := by
  unfold f_X6_enter at hf
  refine z_aload_n (pc := 0) (i := 0) (j := 0) dX6_enter_0 rfl rfl ?_
  refine z_iload_n (pc := 1) (i := 1) (j := 1) dX6_enter_1 rfl rfl ?_
  refine z_iload_n (pc := 2) (i := 2) (j := 2) dX6_enter_2 rfl rfl ?_
  refine z_aload_n (pc := 3) (i := 0) (j := 0) dX6_enter_3 rfl rfl ?_
  refine z_ogetR (pc := 4) dX6_enter_4 lf_RX6_11 sh_37 rfl rfl rfl ?_
  refine z_iload_n (pc := 7) (i := 1) (j := 1) dX6_enter_7 rfl rfl ?_
  obtain ⟨q1, hq1, hf⟩ := Option.bind_eq_some_iff.mp hf
  refine z_oSi (pc := 8) (as := [.ref 38, .int v1]) (rest := [.int v2, .int v1, .ref 37]) dX6_enter_8 lm_RX6_26 mf_X10_at ms_X10_at rfl rfl (Nat.le_of_ble_eq_true rfl) (c_X10_at e (by omega) 38 v1 m hq1) ?_
  refine z_lload_n (pc := 11) (i := 3) (j := 3) dX6_enter_11 rfl rfl ?_
  obtain ⟨q2, hq2, hf⟩ := Option.bind_eq_some_iff.mp hf
  refine z_oSl (pc := 12) (as := [.int q1.1, .long v3]) (rest := [.int v2, .int v1, .ref 37]) dX6_enter_12 lm_RX6_51 mf_X6_narrowed ms_X6_narrowed rfl rfl (Nat.le_of_ble_eq_true rfl) (c_X6_narrowed e (by omega) q1.1 v3 q1.2 hq2) ?_
  obtain ⟨q3, hq3, hf⟩ := Option.bind_eq_some_iff.mp hf
  refine z_oVv (pc := 15) (as := [.int v1, .int v2, .long q2.1]) (rest := []) dX6_enter_15 lm_RX6_30 mf_X6_store mi_X6_store mv_X6_store rc_37 rfl rfl (Nat.le_of_ble_eq_true rfl) (c_X6_store e (by omega) v1 v2 q2.1 q2.2 hq3) ?_
  obtain rfl := Option.some.inj hf
  rw [h0 _ hK]
  exact z_ret dX6_enter_18 rfl
set_option maxHeartbeats 4000000 in
set_option maxRecDepth 100000 in
theorem c_X6_enter (d : Nat) (hd : 1 ≤ d) (v1 : Int32) (v2 : Int32) (v3 : Int64) (m : ej_M) {q : (Unit × ej_M)} (hf : f_X6_enter v1 v2 v3 m = some q) : ej_Ct yX6_enter cX6_enter 5 none d [.ref 37, .int v1, .int v2, .long v3] (ej_sh, m) ((none, (ej_sh, q.2)) : Option Value × ej_H) := by
  obtain ⟨e, rfl⟩ : ∃ e, d = e + 1 := ⟨d - 1, by omega⟩
  exact z_met (by decide +kernel) (Nat.le_of_ble_eq_true rfl) (b_X6_enter e (by omega) v1 v2 v3 m (K := fun z => ((none, (ej_sh, q.2)) : Option Value × ej_H) = (none, (ej_sh, z.2))) hf rfl (fun _ h => h))
def f_X6_refusesElement (v1 : Int32) (v2 : Int32) (m : ej_M) : Option (Int32 × ej_M) :=
  (f_X6_refusesRow v1 m).bind fun q1 =>
  if q1.1 = 0 then
    if v2 < 0 then
      some ((-13), q1.2)
    else
      (f_X6_length v1 q1.2).bind fun q2 =>
      if q2.1 ≤ v2 then
        some ((-13), q2.2)
      else
        some (0, q2.2)
  else
    some (q1.1, q1.2)
set_option maxHeartbeats 4000000 in
set_option maxRecDepth 100000 in
theorem b_X6_refusesElement (e : Nat) (hd : 2 ≤ e) (v1 : Int32) (v2 : Int32) (m : ej_M) {x : (Int32 × ej_M)} {res : Option Value × ej_H} {K : (Int32 × ej_M) → Prop} (hf : f_X6_refusesElement v1 v2 m = some x) (hK : K x) (h0 : ∀ q : (Int32 × ej_M), K q → res = (some (Value.int q.1), (ej_sh, q.2))) : ej_Z cX6_refusesElement 4 (some .int) RX6 "refusesElement" (e + 1) 0 [(0, .ref 37), (1, .int v1), (2, .int v2)] [] (ej_sh, m) res := by
  unfold f_X6_refusesElement at hf
  refine z_aload_n (pc := 0) (i := 0) (j := 0) dX6_refusesElement_0 rfl rfl ?_
  refine z_iload_n (pc := 1) (i := 1) (j := 1) dX6_refusesElement_1 rfl rfl ?_
  obtain ⟨q1, hq1, hf⟩ := Option.bind_eq_some_iff.mp hf
  refine z_oVi (pc := 2) (as := [.int v1]) (rest := []) dX6_refusesElement_2 lm_RX6_44 mf_X6_refusesRow mi_X6_refusesRow mv_X6_refusesRow rc_37 rfl rfl (Nat.le_of_ble_eq_true rfl) (c_X6_refusesRow e (by omega) v1 m hq1) ?_
  refine z_istore_n (pc := 5) (i := 3) (ls' := [(3, .int q1.1), (0, .ref 37), (1, .int v1), (2, .int v2)]) dX6_refusesElement_5 rfl (Nat.le_of_ble_eq_true rfl) rfl ?_
  refine z_iload_n (pc := 6) (i := 3) (j := 0) dX6_refusesElement_6 rfl rfl ?_
  refine z_if_eq (pc := 7) (tgt := 12) dX6_refusesElement_7 (by decide) (fun hc => ?_) (fun hc => ?_)
  · rw [if_pos hc] at hf
    refine z_iload_n (pc := 12) (i := 2) (j := 3) dX6_refusesElement_12 rfl rfl ?_
    refine z_if_lt (pc := 13) (tgt := 29) dX6_refusesElement_13 (by decide) (fun hc => ?_) (fun hc => ?_)
    · rw [if_pos hc] at hf
      refine z_bipush (pc := 29) dX6_refusesElement_29 kb_n13 ?_
      obtain rfl := Option.some.inj hf
      rw [h0 _ hK]
      exact z_iret dX6_refusesElement_31 rfl rfl
    · rw [if_neg hc] at hf
      refine z_iload_n (pc := 16) (i := 2) (j := 3) dX6_refusesElement_16 rfl rfl ?_
      refine z_aload_n (pc := 17) (i := 0) (j := 1) dX6_refusesElement_17 rfl rfl ?_
      refine z_iload_n (pc := 18) (i := 1) (j := 2) dX6_refusesElement_18 rfl rfl ?_
      obtain ⟨q2, hq2, hf⟩ := Option.bind_eq_some_iff.mp hf
      refine z_oVi (pc := 19) (as := [.int v1]) (rest := [.int v2]) dX6_refusesElement_19 lm_RX6_48 mf_X6_length mi_X6_length mv_X6_length rc_37 rfl rfl (Nat.le_of_ble_eq_true rfl) (c_X6_length e (by omega) v1 q1.2 hq2) ?_
      refine z_icmp_ge (pc := 22) (tgt := 29) dX6_refusesElement_22 (by decide) (fun hc => ?_) (fun hc => ?_)
      · rw [if_pos hc] at hf
        refine z_bipush (pc := 29) dX6_refusesElement_29 kb_n13 ?_
        obtain rfl := Option.some.inj hf
        rw [h0 _ hK]
        exact z_iret dX6_refusesElement_31 rfl rfl
      · rw [if_neg hc] at hf
        refine z_iconst (pc := 25) dX6_refusesElement_25 ki_0 ?_
        refine z_goto (pc := 26) (tgt := 31) dX6_refusesElement_26 (by decide) ?_
        obtain rfl := Option.some.inj hf
        rw [h0 _ hK]
        exact z_iret dX6_refusesElement_31 rfl rfl
  · rw [if_neg hc] at hf
    refine z_iload_n (pc := 10) (i := 3) (j := 0) dX6_refusesElement_10 rfl rfl ?_
    obtain rfl := Option.some.inj hf
    rw [h0 _ hK]
    exact z_iret dX6_refusesElement_11 rfl rfl
set_option maxHeartbeats 4000000 in
set_option maxRecDepth 100000 in
theorem c_X6_refusesElement (d : Nat) (hd : 3 ≤ d) (v1 : Int32) (v2 : Int32) (m : ej_M) {q : (Int32 × ej_M)} (hf : f_X6_refusesElement v1 v2 m = some q) : ej_Ct yX6_refusesElement cX6_refusesElement 4 (some .int) d [.ref 37, .int v1, .int v2] (ej_sh, m) ((some (Value.int q.1), (ej_sh, q.2)) : Option Value × ej_H) := by
  obtain ⟨e, rfl⟩ : ∃ e, d = e + 1 := ⟨d - 1, by omega⟩
  exact z_met (by decide +kernel) (Nat.le_of_ble_eq_true rfl) (b_X6_refusesElement e (by omega) v1 v2 m (K := fun z => ((some (Value.int q.1), (ej_sh, q.2)) : Option Value × ej_H) = (some (Value.int z.1), (ej_sh, z.2))) hf rfl (fun _ h => h))
def f_X10_put (v1 : Int32) (v2 : Int32) (v3 : Int64) (m : ej_M) : Option (Int32 × ej_M) :=
  (f_X6_refusesElement v1 v2 m).bind fun q1 =>
  if q1.1 = 0 then
    (f_X6_enter v1 v2 v3 q1.2).bind fun q2 =>
    some (1, q2.2)
  else
    some (q1.1, q1.2)
set_option maxHeartbeats 4000000 in
set_option maxRecDepth 100000 in
theorem b_X10_put (e : Nat) (hd : 3 ≤ e) (v1 : Int32) (v2 : Int32) (v3 : Int64) (m : ej_M) {x : (Int32 × ej_M)} {res : Option Value × ej_H} {K : (Int32 × ej_M) → Prop} (hf : f_X10_put v1 v2 v3 m = some x) (hK : K x) (h0 : ∀ q : (Int32 × ej_M), K q → res = (some (Value.int q.1), (ej_sh, q.2))) : ej_Z cX10_put 6 (some .int) RX10 "put" (e + 1) 0 [(0, .ref 0), (1, .int v1), (2, .int v2), (3, .long v3)] [] (ej_sh, m) res := by
  unfold f_X10_put at hf
  refine z_aload_n (pc := 0) (i := 0) (j := 0) dX10_put_0 rfl rfl ?_
  refine z_ogetR (pc := 1) dX10_put_1 lf_RX10_79 sh_0 rfl rfl rfl ?_
  refine z_iload_n (pc := 4) (i := 1) (j := 1) dX10_put_4 rfl rfl ?_
  refine z_iload_n (pc := 5) (i := 2) (j := 2) dX10_put_5 rfl rfl ?_
  obtain ⟨q1, hq1, hf⟩ := Option.bind_eq_some_iff.mp hf
  refine z_oVi (pc := 6) (as := [.int v1, .int v2]) (rest := []) dX10_put_6 lm_RX10_270 mf_X6_refusesElement mi_X6_refusesElement mv_X6_refusesElement rc_37 rfl rfl (Nat.le_of_ble_eq_true rfl) (c_X6_refusesElement e (by omega) v1 v2 m hq1) ?_
  refine z_istore (pc := 9) (i := 5) (ls' := [(5, .int q1.1), (0, .ref 0), (1, .int v1), (2, .int v2), (3, .long v3)]) dX10_put_9 (Nat.le_of_ble_eq_true rfl) rfl ?_
  refine z_iload (pc := 11) (i := 5) (j := 0) dX10_put_11 rfl ?_
  refine z_if_eq (pc := 13) (tgt := 19) dX10_put_13 (by decide) (fun hc => ?_) (fun hc => ?_)
  · rw [if_pos hc] at hf
    refine z_aload_n (pc := 19) (i := 0) (j := 1) dX10_put_19 rfl rfl ?_
    refine z_ogetR (pc := 20) dX10_put_20 lf_RX10_79 sh_0 rfl rfl rfl ?_
    refine z_iload_n (pc := 23) (i := 1) (j := 2) dX10_put_23 rfl rfl ?_
    refine z_iload_n (pc := 24) (i := 2) (j := 3) dX10_put_24 rfl rfl ?_
    refine z_lload_n (pc := 25) (i := 3) (j := 4) dX10_put_25 rfl rfl ?_
    obtain ⟨q2, hq2, hf⟩ := Option.bind_eq_some_iff.mp hf
    refine z_oVv (pc := 26) (as := [.int v1, .int v2, .long v3]) (rest := []) dX10_put_26 lm_RX10_273 mf_X6_enter mi_X6_enter mv_X6_enter rc_37 rfl rfl (Nat.le_of_ble_eq_true rfl) (c_X6_enter e (by omega) v1 v2 v3 q1.2 hq2) ?_
    refine z_iconst (pc := 29) dX10_put_29 ki_1 ?_
    obtain rfl := Option.some.inj hf
    rw [h0 _ hK]
    exact z_iret dX10_put_30 rfl rfl
  · rw [if_neg hc] at hf
    refine z_iload (pc := 16) (i := 5) (j := 0) dX10_put_16 rfl ?_
    obtain rfl := Option.some.inj hf
    rw [h0 _ hK]
    exact z_iret dX10_put_18 rfl rfl
set_option maxHeartbeats 4000000 in
set_option maxRecDepth 100000 in
theorem c_X10_put (d : Nat) (hd : 4 ≤ d) (v1 : Int32) (v2 : Int32) (v3 : Int64) (m : ej_M) {q : (Int32 × ej_M)} (hf : f_X10_put v1 v2 v3 m = some q) : ej_Ct yX10_put cX10_put 6 (some .int) d [.ref 0, .int v1, .int v2, .long v3] (ej_sh, m) ((some (Value.int q.1), (ej_sh, q.2)) : Option Value × ej_H) := by
  obtain ⟨e, rfl⟩ : ∃ e, d = e + 1 := ⟨d - 1, by omega⟩
  exact z_met (by decide +kernel) (Nat.le_of_ble_eq_true rfl) (b_X10_put e (by omega) v1 v2 v3 m (K := fun z => ((some (Value.int q.1), (ej_sh, q.2)) : Option Value × ej_H) = (some (Value.int z.1), (ej_sh, z.2))) hf rfl (fun _ h => h))
def f_X11_whyNoPlace (v1 : Int32) (v2 : Int32) (m : ej_M) : Option (Int32 × ej_M) :=
  (f_X11_isShelf v1 m).bind fun q1 =>
  if q1.1 = 0 then
    some ((-1), q1.2)
  else
    (oj_ld 0 q1.2 66 v1).bind fun w2 =>
    if w2 = (-1) then
      some ((-11), q1.2)
    else
      (oj_ld 0 q1.2 66 v1).bind fun w3 =>
      if w3 < 0 then
        (oj_ld 0 q1.2 67 v1).bind fun w4 =>
        (f_X11_in v2 0 (w4 - 1) q1.2).bind fun q5 =>
        if q5.1 = 0 then
          some ((-13), q5.2)
        else
          some (0, q5.2)
      else
        some ((-12), q1.2)
set_option maxHeartbeats 4000000 in
set_option maxRecDepth 100000 in
theorem b_X11_whyNoPlace (e : Nat) (hd : 1 ≤ e) (v1 : Int32) (v2 : Int32) (m : ej_M) {x : (Int32 × ej_M)} {res : Option Value × ej_H} {K : (Int32 × ej_M) → Prop} (hf : f_X11_whyNoPlace v1 v2 m = some x) (hK : K x) (h0 : ∀ q : (Int32 × ej_M), K q → res = (some (Value.int q.1), (ej_sh, q.2))) : ej_Z cX11_whyNoPlace 3 (some .int) RX11 "whyNoPlace" (e + 1) 0 [(0, .ref 41), (1, .int v1), (2, .int v2)] [] (ej_sh, m) res := by
  unfold f_X11_whyNoPlace at hf
  refine z_iload_n (pc := 0) (i := 1) (j := 1) dX11_whyNoPlace_0 rfl rfl ?_
  obtain ⟨q1, hq1, hf⟩ := Option.bind_eq_some_iff.mp hf
  refine z_oSi (pc := 1) (as := [.int v1]) (rest := []) dX11_whyNoPlace_1 lm_RX11_115 mf_X11_isShelf ms_X11_isShelf rfl rfl (Nat.le_of_ble_eq_true rfl) (c_X11_isShelf e (by omega) v1 m hq1) ?_
  refine z_if_ne (pc := 4) (tgt := 9) dX11_whyNoPlace_4 (by decide) (fun hc => ?_) (fun hc => ?_)
  · rw [if_neg hc] at hf
    refine z_aload_n (pc := 9) (i := 0) (j := 0) dX11_whyNoPlace_9 rfl rfl ?_
    refine z_ogetR (pc := 10) dX11_whyNoPlace_10 lf_RX11_84 sh_41 rfl rfl rfl ?_
    refine z_iload_n (pc := 13) (i := 1) (j := 1) dX11_whyNoPlace_13 rfl rfl ?_
    obtain ⟨w2, hw2, hf⟩ := Option.bind_eq_some_iff.mp hf
    refine z_oiald (pc := 14) dX11_whyNoPlace_14 hw2 ?_
    refine z_iconst (pc := 15) dX11_whyNoPlace_15 ki_n1 ?_
    refine z_icmp_ne (pc := 16) (tgt := 22) dX11_whyNoPlace_16 (by decide) (fun hc => ?_) (fun hc => ?_)
    · rw [if_neg hc] at hf
      refine z_aload_n (pc := 22) (i := 0) (j := 0) dX11_whyNoPlace_22 rfl rfl ?_
      refine z_ogetR (pc := 23) dX11_whyNoPlace_23 lf_RX11_84 sh_41 rfl rfl rfl ?_
      refine z_iload_n (pc := 26) (i := 1) (j := 1) dX11_whyNoPlace_26 rfl rfl ?_
      obtain ⟨w3, hw3, hf⟩ := Option.bind_eq_some_iff.mp hf
      refine z_oiald (pc := 27) dX11_whyNoPlace_27 hw3 ?_
      refine z_if_lt (pc := 28) (tgt := 34) dX11_whyNoPlace_28 (by decide) (fun hc => ?_) (fun hc => ?_)
      · rw [if_pos hc] at hf
        refine z_iload_n (pc := 34) (i := 2) (j := 2) dX11_whyNoPlace_34 rfl rfl ?_
        refine z_iconst (pc := 35) dX11_whyNoPlace_35 ki_0 ?_
        refine z_aload_n (pc := 36) (i := 0) (j := 0) dX11_whyNoPlace_36 rfl rfl ?_
        refine z_ogetR (pc := 37) dX11_whyNoPlace_37 lf_RX11_87 sh_41 rfl rfl rfl ?_
        refine z_iload_n (pc := 40) (i := 1) (j := 1) dX11_whyNoPlace_40 rfl rfl ?_
        obtain ⟨w4, hw4, hf⟩ := Option.bind_eq_some_iff.mp hf
        refine z_oiald (pc := 41) dX11_whyNoPlace_41 hw4 ?_
        refine z_iconst (pc := 42) dX11_whyNoPlace_42 ki_1 ?_
        refine z_isub (pc := 43) dX11_whyNoPlace_43 ?_
        obtain ⟨q5, hq5, hf⟩ := Option.bind_eq_some_iff.mp hf
        refine z_oSi (pc := 44) (as := [.int v2, .int 0, .int (w4 - 1)]) (rest := []) dX11_whyNoPlace_44 lm_RX11_104 mf_X11_in ms_X11_in rfl rfl (Nat.le_of_ble_eq_true rfl) (c_X11_in e (by omega) v2 0 (w4 - 1) q1.2 hq5) ?_
        refine z_if_eq (pc := 47) (tgt := 54) dX11_whyNoPlace_47 (by decide) (fun hc => ?_) (fun hc => ?_)
        · rw [if_pos hc] at hf
          refine z_bipush (pc := 54) dX11_whyNoPlace_54 kb_n13 ?_
          obtain rfl := Option.some.inj hf
          rw [h0 _ hK]
          exact z_iret dX11_whyNoPlace_56 rfl rfl
        · rw [if_neg hc] at hf
          refine z_iconst (pc := 50) dX11_whyNoPlace_50 ki_0 ?_
          refine z_goto (pc := 51) (tgt := 56) dX11_whyNoPlace_51 (by decide) ?_
          obtain rfl := Option.some.inj hf
          rw [h0 _ hK]
          exact z_iret dX11_whyNoPlace_56 rfl rfl
      · rw [if_neg hc] at hf
        refine z_bipush (pc := 31) dX11_whyNoPlace_31 kb_n12 ?_
        obtain rfl := Option.some.inj hf
        rw [h0 _ hK]
        exact z_iret dX11_whyNoPlace_33 rfl rfl
    · rw [if_pos hc] at hf
      refine z_bipush (pc := 19) dX11_whyNoPlace_19 kb_n11 ?_
      obtain rfl := Option.some.inj hf
      rw [h0 _ hK]
      exact z_iret dX11_whyNoPlace_21 rfl rfl
  · rw [if_pos hc] at hf
    refine z_iconst (pc := 7) dX11_whyNoPlace_7 ki_n1 ?_
    obtain rfl := Option.some.inj hf
    rw [h0 _ hK]
    exact z_iret dX11_whyNoPlace_8 rfl rfl
set_option maxHeartbeats 4000000 in
set_option maxRecDepth 100000 in
theorem c_X11_whyNoPlace (d : Nat) (hd : 2 ≤ d) (v1 : Int32) (v2 : Int32) (m : ej_M) {q : (Int32 × ej_M)} (hf : f_X11_whyNoPlace v1 v2 m = some q) : ej_Ct yX11_whyNoPlace cX11_whyNoPlace 3 (some .int) d [.ref 41, .int v1, .int v2] (ej_sh, m) ((some (Value.int q.1), (ej_sh, q.2)) : Option Value × ej_H) := by
  obtain ⟨e, rfl⟩ : ∃ e, d = e + 1 := ⟨d - 1, by omega⟩
  exact z_met (by decide +kernel) (Nat.le_of_ble_eq_true rfl) (b_X11_whyNoPlace e (by omega) v1 v2 m (K := fun z => ((some (Value.int q.1), (ej_sh, q.2)) : Option Value × ej_H) = (some (Value.int z.1), (ej_sh, z.2))) hf rfl (fun _ h => h))
def f_X11_put_B95 (s0 : Int64) (s1 : Int32) (m : ej_M) : Option (Int32 × ej_M) :=
  (oj_sl m 68 s1 s0).bind fun m1 =>
  some (1, m1)
set_option maxHeartbeats 4000000 in
set_option maxRecDepth 100000 in
theorem b_X11_put_B95 (e : Nat) (hd : 2 ≤ e) (s0 : Int64) (s1 : Int32) (m : ej_M) {x : (Int32 × ej_M)} {res : Option Value × ej_H} {K : (Int32 × ej_M) → Prop} (hf : f_X11_put_B95 s0 s1 m = some x) (hK : K x) (h0 : ∀ q : (Int32 × ej_M), K q → res = (some (Value.int q.1), (ej_sh, q.2))) : ej_Z cX11_put 7 (some .int) RX11 "put" (e + 1) 95 [] [.long s0, .int s1, .ref 68] (ej_sh, m) res := by
  unfold f_X11_put_B95 at hf
  obtain ⟨m1, hm1, hf⟩ := Option.bind_eq_some_iff.mp hf
  refine z_olast (pc := 95) dX11_put_95 hm1 ?_
  refine z_iconst (pc := 96) dX11_put_96 ki_1 ?_
  obtain rfl := Option.some.inj hf
  rw [h0 _ hK]
  exact z_iret dX11_put_97 rfl rfl
def f_X11_put (v1 : Int32) (v2 : Int32) (v3 : Int64) (m : ej_M) : Option (Int32 × ej_M) :=
  (f_X11_whyNoPlace v1 v2 m).bind fun q1 =>
  if 0 ≤ q1.1 then
    (oj_ld 0 q1.2 66 v1).bind fun w2 =>
    if ((-2) - w2) = 0 then
      f_X11_put_B95 (Int32.toInt64 ((Int32.toInt8 (Int64.toInt32 v3)).toInt32)) ((60 * v1) + v2) q1.2
    else
      if ((-2) - w2) = 1 then
        f_X11_put_B95 (Int32.toInt64 ((Int32.toInt16 (Int64.toInt32 v3)).toInt32)) ((60 * v1) + v2) q1.2
      else
        if ((-2) - w2) = 2 then
          f_X11_put_B95 (Int32.toInt64 (Int64.toInt32 v3)) ((60 * v1) + v2) q1.2
        else
          if ((-2) - w2) = 3 then
            f_X11_put_B95 v3 ((60 * v1) + v2) q1.2
          else
            if (lg_cmp v3 (0 : Int64)) = 0 then
              f_X11_put_B95 (0 : Int64) ((60 * v1) + v2) q1.2
            else
              f_X11_put_B95 (1 : Int64) ((60 * v1) + v2) q1.2
  else
    some (q1.1, q1.2)
set_option maxHeartbeats 4000000 in
set_option maxRecDepth 100000 in
theorem b_X11_put (e : Nat) (hd : 2 ≤ e) (v1 : Int32) (v2 : Int32) (v3 : Int64) (m : ej_M) {x : (Int32 × ej_M)} {res : Option Value × ej_H} {K : (Int32 × ej_M) → Prop} (hf : f_X11_put v1 v2 v3 m = some x) (hK : K x) (h0 : ∀ q : (Int32 × ej_M), K q → res = (some (Value.int q.1), (ej_sh, q.2))) : ej_Z cX11_put 7 (some .int) RX11 "put" (e + 1) 0 [(0, .ref 41), (1, .int v1), (2, .int v2), (3, .long v3)] [] (ej_sh, m) res := by
  unfold f_X11_put at hf
  refine z_aload_n (pc := 0) (i := 0) (j := 0) dX11_put_0 rfl rfl ?_
  refine z_iload_n (pc := 1) (i := 1) (j := 1) dX11_put_1 rfl rfl ?_
  refine z_iload_n (pc := 2) (i := 2) (j := 2) dX11_put_2 rfl rfl ?_
  obtain ⟨q1, hq1, hf⟩ := Option.bind_eq_some_iff.mp hf
  refine z_oVi (pc := 3) (as := [.int v1, .int v2]) (rest := []) dX11_put_3 lm_RX11_386 mf_X11_whyNoPlace mi_X11_whyNoPlace mv_X11_whyNoPlace rc_41 rfl rfl (Nat.le_of_ble_eq_true rfl) (c_X11_whyNoPlace e (by omega) v1 v2 m hq1) ?_
  refine z_istore (pc := 6) (i := 5) (ls' := [(5, .int q1.1), (0, .ref 41), (1, .int v1), (2, .int v2), (3, .long v3)]) dX11_put_6 (Nat.le_of_ble_eq_true rfl) rfl ?_
  refine z_iload (pc := 8) (i := 5) (j := 0) dX11_put_8 rfl ?_
  refine z_if_ge (pc := 10) (tgt := 16) dX11_put_10 (by decide) (fun hc => ?_) (fun hc => ?_)
  · rw [if_pos hc] at hf
    refine z_bipush (pc := 16) dX11_put_16 kb_n2 ?_
    refine z_aload_n (pc := 18) (i := 0) (j := 1) dX11_put_18 rfl rfl ?_
    refine z_ogetR (pc := 19) dX11_put_19 lf_RX11_84 sh_41 rfl rfl rfl ?_
    refine z_iload_n (pc := 22) (i := 1) (j := 2) dX11_put_22 rfl rfl ?_
    obtain ⟨w2, hw2, hf⟩ := Option.bind_eq_some_iff.mp hf
    refine z_oiald (pc := 23) dX11_put_23 hw2 ?_
    refine z_isub (pc := 24) dX11_put_24 ?_
    refine z_istore (pc := 25) (i := 6) (ls' := [(6, .int ((-2) - w2)), (5, .int q1.1), (0, .ref 41), (1, .int v1), (2, .int v2), (3, .long v3)]) dX11_put_25 (Nat.le_of_ble_eq_true rfl) rfl ?_
    refine z_aload_n (pc := 27) (i := 0) (j := 2) dX11_put_27 rfl rfl ?_
    refine z_ogetR (pc := 28) dX11_put_28 lf_RX11_90 sh_41 rfl rfl rfl ?_
    refine z_bipush (pc := 31) dX11_put_31 kb_60 ?_
    refine z_iload_n (pc := 33) (i := 1) (j := 3) dX11_put_33 rfl rfl ?_
    refine z_imul (pc := 34) dX11_put_34 ?_
    refine z_iload_n (pc := 35) (i := 2) (j := 4) dX11_put_35 rfl rfl ?_
    refine z_iadd (pc := 36) dX11_put_36 ?_
    refine z_iload (pc := 37) (i := 6) (j := 0) dX11_put_37 rfl ?_
    refine z_if_ne (pc := 39) (tgt := 49) dX11_put_39 (by decide) (fun hc => ?_) (fun hc => ?_)
    · rw [if_neg hc] at hf
      refine z_iload (pc := 49) (i := 6) (j := 0) dX11_put_49 rfl ?_
      refine z_iconst (pc := 51) dX11_put_51 ki_1 ?_
      refine z_icmp_ne (pc := 52) (tgt := 62) dX11_put_52 (by decide) (fun hc => ?_) (fun hc => ?_)
      · rw [if_neg hc] at hf
        refine z_iload (pc := 62) (i := 6) (j := 0) dX11_put_62 rfl ?_
        refine z_iconst (pc := 64) dX11_put_64 ki_2 ?_
        refine z_icmp_ne (pc := 65) (tgt := 74) dX11_put_65 (by decide) (fun hc => ?_) (fun hc => ?_)
        · rw [if_neg hc] at hf
          refine z_iload (pc := 74) (i := 6) (j := 0) dX11_put_74 rfl ?_
          refine z_iconst (pc := 76) dX11_put_76 ki_3 ?_
          refine z_icmp_ne (pc := 77) (tgt := 84) dX11_put_77 (by decide) (fun hc => ?_) (fun hc => ?_)
          · rw [if_neg hc] at hf
            refine z_lload_n (pc := 84) (i := 3) (j := 5) dX11_put_84 rfl rfl ?_
            refine z_lconst (pc := 85) dX11_put_85 kl_0 ?_
            refine z_lcmp (pc := 86) dX11_put_86 ?_
            refine z_if_eq (pc := 87) (tgt := 94) dX11_put_87 (by decide) (fun hc => ?_) (fun hc => ?_)
            · rw [if_pos hc] at hf
              refine z_lconst (pc := 94) dX11_put_94 kl_0 ?_
              exact z_pick [] rfl (b_X11_put_B95 e hd (0 : Int64) ((60 * v1) + v2) q1.2 (K := K) hf hK  h0)
            · rw [if_neg hc] at hf
              refine z_lconst (pc := 90) dX11_put_90 kl_1 ?_
              refine z_goto (pc := 91) (tgt := 95) dX11_put_91 (by decide) ?_
              exact z_pick [] rfl (b_X11_put_B95 e hd (1 : Int64) ((60 * v1) + v2) q1.2 (K := K) hf hK  h0)
          · rw [if_pos hc] at hf
            refine z_lload_n (pc := 80) (i := 3) (j := 5) dX11_put_80 rfl rfl ?_
            refine z_goto (pc := 81) (tgt := 95) dX11_put_81 (by decide) ?_
            exact z_pick [] rfl (b_X11_put_B95 e hd v3 ((60 * v1) + v2) q1.2 (K := K) hf hK  h0)
        · rw [if_pos hc] at hf
          refine z_lload_n (pc := 68) (i := 3) (j := 5) dX11_put_68 rfl rfl ?_
          refine z_l2i (pc := 69) dX11_put_69 ?_
          refine z_i2l (pc := 70) dX11_put_70 ?_
          refine z_goto (pc := 71) (tgt := 95) dX11_put_71 (by decide) ?_
          exact z_pick [] rfl (b_X11_put_B95 e hd (Int32.toInt64 (Int64.toInt32 v3)) ((60 * v1) + v2) q1.2 (K := K) hf hK  h0)
      · rw [if_pos hc] at hf
        refine z_lload_n (pc := 55) (i := 3) (j := 5) dX11_put_55 rfl rfl ?_
        refine z_l2i (pc := 56) dX11_put_56 ?_
        refine z_i2s (pc := 57) dX11_put_57 ?_
        refine z_i2l (pc := 58) dX11_put_58 ?_
        refine z_goto (pc := 59) (tgt := 95) dX11_put_59 (by decide) ?_
        exact z_pick [] rfl (b_X11_put_B95 e hd (Int32.toInt64 ((Int32.toInt16 (Int64.toInt32 v3)).toInt32)) ((60 * v1) + v2) q1.2 (K := K) hf hK  h0)
    · rw [if_pos hc] at hf
      refine z_lload_n (pc := 42) (i := 3) (j := 5) dX11_put_42 rfl rfl ?_
      refine z_l2i (pc := 43) dX11_put_43 ?_
      refine z_i2b (pc := 44) dX11_put_44 ?_
      refine z_i2l (pc := 45) dX11_put_45 ?_
      refine z_goto (pc := 46) (tgt := 95) dX11_put_46 (by decide) ?_
      exact z_pick [] rfl (b_X11_put_B95 e hd (Int32.toInt64 ((Int32.toInt8 (Int64.toInt32 v3)).toInt32)) ((60 * v1) + v2) q1.2 (K := K) hf hK  h0)
  · rw [if_neg hc] at hf
    refine z_iload (pc := 13) (i := 5) (j := 0) dX11_put_13 rfl ?_
    obtain rfl := Option.some.inj hf
    rw [h0 _ hK]
    exact z_iret dX11_put_15 rfl rfl
set_option maxHeartbeats 4000000 in
set_option maxRecDepth 100000 in
theorem c_X11_put (d : Nat) (hd : 3 ≤ d) (v1 : Int32) (v2 : Int32) (v3 : Int64) (m : ej_M) {q : (Int32 × ej_M)} (hf : f_X11_put v1 v2 v3 m = some q) : ej_Ct yX11_put cX11_put 7 (some .int) d [.ref 41, .int v1, .int v2, .long v3] (ej_sh, m) ((some (Value.int q.1), (ej_sh, q.2)) : Option Value × ej_H) := by
  obtain ⟨e, rfl⟩ : ∃ e, d = e + 1 := ⟨d - 1, by omega⟩
  exact z_met (by decide +kernel) (Nat.le_of_ble_eq_true rfl) (b_X11_put e (by omega) v1 v2 v3 m (K := fun z => ((some (Value.int q.1), (ej_sh, q.2)) : Option Value × ej_H) = (some (Value.int z.1), (ej_sh, z.2))) hf rfl (fun _ h => h))
def f_X10_element (v1 : Int32) (v2 : Int32) (m : ej_M) : Option (Int64 × ej_M) :=
  (f_X6_refusesElement v1 v2 m).bind fun q1 =>
  if q1.1 = 0 then
    (f_X6_valueAt v1 v2 q1.2).bind fun q2 =>
    some (q2.1, q2.2)
  else
    some ((-9223372036854775808 : Int64), q1.2)
set_option maxHeartbeats 4000000 in
set_option maxRecDepth 100000 in
theorem b_X10_element (e : Nat) (hd : 3 ≤ e) (v1 : Int32) (v2 : Int32) (m : ej_M) {x : (Int64 × ej_M)} {res : Option Value × ej_H} {K : (Int64 × ej_M) → Prop} (hf : f_X10_element v1 v2 m = some x) (hK : K x) (h0 : ∀ q : (Int64 × ej_M), K q → res = (some (Value.long q.1), (ej_sh, q.2))) : ej_Z cX10_element 3 (some .long) RX10 "element" (e + 1) 0 [(0, .ref 0), (1, .int v1), (2, .int v2)] [] (ej_sh, m) res := by
  unfold f_X10_element at hf
  refine z_aload_n (pc := 0) (i := 0) (j := 0) dX10_element_0 rfl rfl ?_
  refine z_ogetR (pc := 1) dX10_element_1 lf_RX10_79 sh_0 rfl rfl rfl ?_
  refine z_iload_n (pc := 4) (i := 1) (j := 1) dX10_element_4 rfl rfl ?_
  refine z_iload_n (pc := 5) (i := 2) (j := 2) dX10_element_5 rfl rfl ?_
  obtain ⟨q1, hq1, hf⟩ := Option.bind_eq_some_iff.mp hf
  refine z_oVi (pc := 6) (as := [.int v1, .int v2]) (rest := []) dX10_element_6 lm_RX10_270 mf_X6_refusesElement mi_X6_refusesElement mv_X6_refusesElement rc_37 rfl rfl (Nat.le_of_ble_eq_true rfl) (c_X6_refusesElement e (by omega) v1 v2 m hq1) ?_
  refine z_if_ne (pc := 9) (tgt := 24) dX10_element_9 (by decide) (fun hc => ?_) (fun hc => ?_)
  · rw [if_neg hc] at hf
    refine z_ldc2 (pc := 24) dX10_element_24 lc_RX10_277 ?_
    obtain rfl := Option.some.inj hf
    rw [h0 _ hK]
    exact z_lret dX10_element_27 rfl
  · rw [if_pos hc] at hf
    refine z_aload_n (pc := 12) (i := 0) (j := 0) dX10_element_12 rfl rfl ?_
    refine z_ogetR (pc := 13) dX10_element_13 lf_RX10_79 sh_0 rfl rfl rfl ?_
    refine z_iload_n (pc := 16) (i := 1) (j := 1) dX10_element_16 rfl rfl ?_
    refine z_iload_n (pc := 17) (i := 2) (j := 2) dX10_element_17 rfl rfl ?_
    obtain ⟨q2, hq2, hf⟩ := Option.bind_eq_some_iff.mp hf
    refine z_oVl (pc := 18) (as := [.int v1, .int v2]) (rest := []) dX10_element_18 lm_RX10_97 mf_X6_valueAt mi_X6_valueAt mv_X6_valueAt rc_37 rfl rfl (Nat.le_of_ble_eq_true rfl) (c_X6_valueAt e (by omega) v1 v2 q1.2 hq2) ?_
    refine z_goto (pc := 21) (tgt := 27) dX10_element_21 (by decide) ?_
    obtain rfl := Option.some.inj hf
    rw [h0 _ hK]
    exact z_lret dX10_element_27 rfl
set_option maxHeartbeats 4000000 in
set_option maxRecDepth 100000 in
theorem c_X10_element (d : Nat) (hd : 4 ≤ d) (v1 : Int32) (v2 : Int32) (m : ej_M) {q : (Int64 × ej_M)} (hf : f_X10_element v1 v2 m = some q) : ej_Ct yX10_element cX10_element 3 (some .long) d [.ref 0, .int v1, .int v2] (ej_sh, m) ((some (Value.long q.1), (ej_sh, q.2)) : Option Value × ej_H) := by
  obtain ⟨e, rfl⟩ : ∃ e, d = e + 1 := ⟨d - 1, by omega⟩
  exact z_met (by decide +kernel) (Nat.le_of_ble_eq_true rfl) (b_X10_element e (by omega) v1 v2 m (K := fun z => ((some (Value.long q.1), (ej_sh, q.2)) : Option Value × ej_H) = (some (Value.long z.1), (ej_sh, z.2))) hf rfl (fun _ h => h))
def f_X11_element (v1 : Int32) (v2 : Int32) (m : ej_M) : Option (Int64 × ej_M) :=
  (f_X11_whyNoPlace v1 v2 m).bind fun q1 =>
  if 0 ≤ q1.1 then
    (oj_ll q1.2 68 ((60 * v1) + v2)).bind fun w2 =>
    some (w2, q1.2)
  else
    some ((-9223372036854775808 : Int64), q1.2)
set_option maxHeartbeats 4000000 in
set_option maxRecDepth 100000 in
theorem b_X11_element (e : Nat) (hd : 2 ≤ e) (v1 : Int32) (v2 : Int32) (m : ej_M) {x : (Int64 × ej_M)} {res : Option Value × ej_H} {K : (Int64 × ej_M) → Prop} (hf : f_X11_element v1 v2 m = some x) (hK : K x) (h0 : ∀ q : (Int64 × ej_M), K q → res = (some (Value.long q.1), (ej_sh, q.2))) : ej_Z cX11_element 3 (some .long) RX11 "element" (e + 1) 0 [(0, .ref 41), (1, .int v1), (2, .int v2)] [] (ej_sh, m) res := by
  unfold f_X11_element at hf
  refine z_aload_n (pc := 0) (i := 0) (j := 0) dX11_element_0 rfl rfl ?_
  refine z_iload_n (pc := 1) (i := 1) (j := 1) dX11_element_1 rfl rfl ?_
  refine z_iload_n (pc := 2) (i := 2) (j := 2) dX11_element_2 rfl rfl ?_
  obtain ⟨q1, hq1, hf⟩ := Option.bind_eq_some_iff.mp hf
  refine z_oVi (pc := 3) (as := [.int v1, .int v2]) (rest := []) dX11_element_3 lm_RX11_386 mf_X11_whyNoPlace mi_X11_whyNoPlace mv_X11_whyNoPlace rc_41 rfl rfl (Nat.le_of_ble_eq_true rfl) (c_X11_whyNoPlace e (by omega) v1 v2 m hq1) ?_
  refine z_if_ge (pc := 6) (tgt := 15) dX11_element_6 (by decide) (fun hc => ?_) (fun hc => ?_)
  · rw [if_pos hc] at hf
    refine z_aload_n (pc := 15) (i := 0) (j := 0) dX11_element_15 rfl rfl ?_
    refine z_ogetR (pc := 16) dX11_element_16 lf_RX11_90 sh_41 rfl rfl rfl ?_
    refine z_bipush (pc := 19) dX11_element_19 kb_60 ?_
    refine z_iload_n (pc := 21) (i := 1) (j := 1) dX11_element_21 rfl rfl ?_
    refine z_imul (pc := 22) dX11_element_22 ?_
    refine z_iload_n (pc := 23) (i := 2) (j := 2) dX11_element_23 rfl rfl ?_
    refine z_iadd (pc := 24) dX11_element_24 ?_
    obtain ⟨w2, hw2, hf⟩ := Option.bind_eq_some_iff.mp hf
    refine z_olald (pc := 25) dX11_element_25 hw2 ?_
    obtain rfl := Option.some.inj hf
    rw [h0 _ hK]
    exact z_lret dX11_element_26 rfl
  · rw [if_neg hc] at hf
    refine z_ldc2 (pc := 9) dX11_element_9 lc_RX11_391 ?_
    refine z_goto (pc := 12) (tgt := 26) dX11_element_12 (by decide) ?_
    obtain rfl := Option.some.inj hf
    rw [h0 _ hK]
    exact z_lret dX11_element_26 rfl
set_option maxHeartbeats 4000000 in
set_option maxRecDepth 100000 in
theorem c_X11_element (d : Nat) (hd : 3 ≤ d) (v1 : Int32) (v2 : Int32) (m : ej_M) {q : (Int64 × ej_M)} (hf : f_X11_element v1 v2 m = some q) : ej_Ct yX11_element cX11_element 3 (some .long) d [.ref 41, .int v1, .int v2] (ej_sh, m) ((some (Value.long q.1), (ej_sh, q.2)) : Option Value × ej_H) := by
  obtain ⟨e, rfl⟩ : ∃ e, d = e + 1 := ⟨d - 1, by omega⟩
  exact z_met (by decide +kernel) (Nat.le_of_ble_eq_true rfl) (b_X11_element e (by omega) v1 v2 m (K := fun z => ((some (Value.long q.1), (ej_sh, q.2)) : Option Value × ej_H) = (some (Value.long z.1), (ej_sh, z.2))) hf rfl (fun _ h => h))
def f_X6_move_B83 (v1 : Int32) (v2 : Int32) (v3 : Int32) (v4 : Int32) (v5 : Int32) (v6 : Int32) (v7 : Int32) (s0 : Int32) (m : ej_M) : Option ((Int32 × ej_M) ⊕ (Int32 × ej_M)) :=
  (f_X6_valueAt v1 (v2 + s0) m).bind fun q1 =>
  (f_X6_store v3 (v4 + s0) q1.1 q1.2).bind fun q2 =>
  some (Sum.inl ((v7 + 1), q2.2))
set_option maxHeartbeats 4000000 in
set_option maxRecDepth 100000 in
theorem b_X6_move_B83 (e : Nat) (hd : 1 ≤ e) (v1 : Int32) (v2 : Int32) (v3 : Int32) (v4 : Int32) (v5 : Int32) (v6 : Int32) (v7 : Int32) (s0 : Int32) (m : ej_M) {x : ((Int32 × ej_M) ⊕ (Int32 × ej_M))} {res : Option Value × ej_H} {K : ((Int32 × ej_M) ⊕ (Int32 × ej_M)) → Prop} (hf : f_X6_move_B83 v1 v2 v3 v4 v5 v6 v7 s0 m = some x) (hK : K x) (h1 : ∀ q : (Int32 × ej_M), K (Sum.inl q) → ej_Z cX6_move 9 (some .boolean) RX6 "move" (e + 1) 59 [(0, .ref 37), (1, .int v1), (2, .int v2), (3, .int v3), (4, .int v4), (5, .int v5), (6, .int v6), (7, .int q.1)] [] (ej_sh, q.2) res) (h0 : ∀ q : (Int32 × ej_M), K (Sum.inr q) → res = (some (Value.int q.1), (ej_sh, q.2))) : ej_Z cX6_move 9 (some .boolean) RX6 "move" (e + 1) 83 [(0, .ref 37), (1, .int v1), (2, .int v2), (3, .int v3), (4, .int v4), (5, .int v5), (6, .int v6), (7, .int v7)] [.int s0] (ej_sh, m) res := by
  unfold f_X6_move_B83 at hf
  refine z_istore (pc := 83) (i := 8) (ls' := [(8, .int s0), (0, .ref 37), (1, .int v1), (2, .int v2), (3, .int v3), (4, .int v4), (5, .int v5), (6, .int v6), (7, .int v7)]) dX6_move_83 (Nat.le_of_ble_eq_true rfl) rfl ?_
  refine z_aload_n (pc := 85) (i := 0) (j := 1) dX6_move_85 rfl rfl ?_
  refine z_iload_n (pc := 86) (i := 3) (j := 4) dX6_move_86 rfl rfl ?_
  refine z_iload (pc := 87) (i := 4) (j := 5) dX6_move_87 rfl ?_
  refine z_iload (pc := 89) (i := 8) (j := 0) dX6_move_89 rfl ?_
  refine z_iadd (pc := 91) dX6_move_91 ?_
  refine z_aload_n (pc := 92) (i := 0) (j := 1) dX6_move_92 rfl rfl ?_
  refine z_iload_n (pc := 93) (i := 1) (j := 2) dX6_move_93 rfl rfl ?_
  refine z_iload_n (pc := 94) (i := 2) (j := 3) dX6_move_94 rfl rfl ?_
  refine z_iload (pc := 95) (i := 8) (j := 0) dX6_move_95 rfl ?_
  refine z_iadd (pc := 97) dX6_move_97 ?_
  obtain ⟨q1, hq1, hf⟩ := Option.bind_eq_some_iff.mp hf
  refine z_oVl (pc := 98) (as := [.int v1, .int (v2 + s0)]) (rest := [.int (v4 + s0), .int v3, .ref 37]) dX6_move_98 lm_RX6_55 mf_X6_valueAt mi_X6_valueAt mv_X6_valueAt rc_37 rfl rfl (Nat.le_of_ble_eq_true rfl) (c_X6_valueAt e (by omega) v1 (v2 + s0) m hq1) ?_
  obtain ⟨q2, hq2, hf⟩ := Option.bind_eq_some_iff.mp hf
  refine z_oVv (pc := 101) (as := [.int v3, .int (v4 + s0), .long q1.1]) (rest := []) dX6_move_101 lm_RX6_30 mf_X6_store mi_X6_store mv_X6_store rc_37 rfl rfl (Nat.le_of_ble_eq_true rfl) (c_X6_store e (by omega) v3 (v4 + s0) q1.1 q1.2 hq2) ?_
  refine z_iinc (pc := 104) (j := 8) (ls' := [(7, .int (v7 + 1)), (8, .int s0), (0, .ref 37), (1, .int v1), (2, .int v2), (3, .int v3), (4, .int v4), (5, .int v5), (6, .int v6)]) dX6_move_104 rfl ki_1 (Nat.le_of_ble_eq_true rfl) rfl ?_
  refine z_goto (pc := 107) (tgt := 59) dX6_move_107 (by decide) ?_
  obtain rfl := Option.some.inj hf
  exact z_pick (ls' := [(0, .ref 37), (1, .int v1), (2, .int v2), (3, .int v3), (4, .int v4), (5, .int v5), (6, .int v6), (7, .int (v7 + 1))]) [2, 3, 4, 5, 6, 7, 8, 0] rfl (h1 ((v7 + 1), q2.2) hK)
def f_X6_move_L59b (v1 : Int32) (v2 : Int32) (v3 : Int32) (v4 : Int32) (v5 : Int32) (v6 : Int32) (v7 : Int32) (m : ej_M) : Option ((Int32 × ej_M) ⊕ (Int32 × ej_M)) :=
  if v5 ≤ v7 then
    some (Sum.inr (1, m))
  else
    if v6 = 0 then
      f_X6_move_B83 v1 v2 v3 v4 v5 v6 v7 ((v5 - 1) - v7) m
    else
      f_X6_move_B83 v1 v2 v3 v4 v5 v6 v7 v7 m
set_option maxHeartbeats 4000000 in
set_option maxRecDepth 100000 in
theorem b_X6_move_L59b (e : Nat) (hd : 1 ≤ e) (v1 : Int32) (v2 : Int32) (v3 : Int32) (v4 : Int32) (v5 : Int32) (v6 : Int32) (v7 : Int32) (m : ej_M) {x : ((Int32 × ej_M) ⊕ (Int32 × ej_M))} {res : Option Value × ej_H} {K : ((Int32 × ej_M) ⊕ (Int32 × ej_M)) → Prop} (hf : f_X6_move_L59b v1 v2 v3 v4 v5 v6 v7 m = some x) (hK : K x) (h1 : ∀ q : (Int32 × ej_M), K (Sum.inl q) → ej_Z cX6_move 9 (some .boolean) RX6 "move" (e + 1) 59 [(0, .ref 37), (1, .int v1), (2, .int v2), (3, .int v3), (4, .int v4), (5, .int v5), (6, .int v6), (7, .int q.1)] [] (ej_sh, q.2) res) (h0 : ∀ q : (Int32 × ej_M), K (Sum.inr q) → res = (some (Value.int q.1), (ej_sh, q.2))) : ej_Z cX6_move 9 (some .boolean) RX6 "move" (e + 1) 59 [(0, .ref 37), (1, .int v1), (2, .int v2), (3, .int v3), (4, .int v4), (5, .int v5), (6, .int v6), (7, .int v7)] [] (ej_sh, m) res := by
  unfold f_X6_move_L59b at hf
  refine z_iload (pc := 59) (i := 7) (j := 7) dX6_move_59 rfl ?_
  refine z_iload (pc := 61) (i := 5) (j := 5) dX6_move_61 rfl ?_
  refine z_icmp_ge (pc := 63) (tgt := 110) dX6_move_63 (by decide) (fun hc => ?_) (fun hc => ?_)
  · rw [if_pos hc] at hf
    refine z_iconst (pc := 110) dX6_move_110 ki_1 ?_
    obtain rfl := Option.some.inj hf
    rw [h0 _ hK]
    exact z_iret dX6_move_111 rfl rfl
  · rw [if_neg hc] at hf
    refine z_iload (pc := 66) (i := 6) (j := 6) dX6_move_66 rfl ?_
    refine z_if_eq (pc := 68) (tgt := 76) dX6_move_68 (by decide) (fun hc => ?_) (fun hc => ?_)
    · rw [if_pos hc] at hf
      refine z_iload (pc := 76) (i := 5) (j := 5) dX6_move_76 rfl ?_
      refine z_iconst (pc := 78) dX6_move_78 ki_1 ?_
      refine z_isub (pc := 79) dX6_move_79 ?_
      refine z_iload (pc := 80) (i := 7) (j := 7) dX6_move_80 rfl ?_
      refine z_isub (pc := 82) dX6_move_82 ?_
      exact z_pick [0, 1, 2, 3, 4, 5, 6, 7] rfl (b_X6_move_B83 e hd v1 v2 v3 v4 v5 v6 v7 ((v5 - 1) - v7) m (K := K) hf hK h1 h0)
    · rw [if_neg hc] at hf
      refine z_iload (pc := 71) (i := 7) (j := 7) dX6_move_71 rfl ?_
      refine z_goto (pc := 73) (tgt := 83) dX6_move_73 (by decide) ?_
      exact z_pick [0, 1, 2, 3, 4, 5, 6, 7] rfl (b_X6_move_B83 e hd v1 v2 v3 v4 v5 v6 v7 v7 m (K := K) hf hK h1 h0)
def f_X6_move_L59 (v1 : Int32) (v2 : Int32) (v3 : Int32) (v4 : Int32) (v5 : Int32) (v6 : Int32) (v7 : Int32) (m : ej_M) : Option (Int32 × ej_M) := oj_loop (fun q : (Int32 × ej_M) => f_X6_move_L59b v1 v2 v3 v4 v5 v6 q.1 q.2) oj_FU (v7, m)
set_option maxHeartbeats 4000000 in
set_option maxRecDepth 100000 in
theorem b_X6_move_L59 (e : Nat) (hd : 1 ≤ e) (v1 : Int32) (v2 : Int32) (v3 : Int32) (v4 : Int32) (v5 : Int32) (v6 : Int32) (v7 : Int32) (m : ej_M) {x : (Int32 × ej_M)} {res : Option Value × ej_H} {K : (Int32 × ej_M) → Prop} (hf : f_X6_move_L59 v1 v2 v3 v4 v5 v6 v7 m = some x) (hK : K x) (h0 : ∀ q : (Int32 × ej_M), K q → res = (some (Value.int q.1), (ej_sh, q.2))) : ej_Z cX6_move 9 (some .boolean) RX6 "move" (e + 1) 59 [(0, .ref 37), (1, .int v1), (2, .int v2), (3, .int v3), (4, .int v4), (5, .int v5), (6, .int v6), (7, .int v7)] [] (ej_sh, m) res :=
  oj_loop_Z (body := fun q : (Int32 × ej_M) => f_X6_move_L59b v1 v2 v3 v4 v5 v6 q.1 q.2) (P := fun q : (Int32 × ej_M) => ej_Z cX6_move 9 (some .boolean) RX6 "move" (e + 1) 59 [(0, .ref 37), (1, .int v1), (2, .int v2), (3, .int v3), (4, .int v4), (5, .int v5), (6, .int v6), (7, .int q.1)] [] (ej_sh, q.2) res) (K := K) (fun s x hb hl hr => b_X6_move_L59b e hd v1 v2 v3 v4 v5 v6  s.1 s.2 (K := fun x => (∀ s' : (Int32 × ej_M), x = Sum.inl s' → ej_Z cX6_move 9 (some .boolean) RX6 "move" (e + 1) 59 [(0, .ref 37), (1, .int v1), (2, .int v2), (3, .int v3), (4, .int v4), (5, .int v5), (6, .int v6), (7, .int s'.1)] [] (ej_sh, s'.2) res) ∧ ∀ e, x = Sum.inr e → K e) hb ⟨hl, hr⟩ (fun q hq => hq.1 q rfl) (fun q hq => h0 q (hq.2 _ rfl))) oj_FU (v7, m) x hf hK
def f_X6_move (v1 : Int32) (v2 : Int32) (v3 : Int32) (v4 : Int32) (v5 : Int32) (m : ej_M) : Option (Int32 × ej_M) :=
  if v5 < 0 then
    some (0, m)
  else
    if v2 < 0 then
      some (0, m)
    else
      if 0 ≤ v4 then
        (f_X6_length v1 m).bind fun q1 =>
        if (q1.1 - v5) < v2 then
          some (0, q1.2)
        else
          (f_X6_length v3 q1.2).bind fun q2 =>
          if v4 ≤ (q2.1 - v5) then
            if v2 ≤ v4 then
              f_X6_move_L59 v1 v2 v3 v4 v5 0 0 q2.2
            else
              f_X6_move_L59 v1 v2 v3 v4 v5 1 0 q2.2
          else
            some (0, q2.2)
      else
        some (0, m)
set_option maxHeartbeats 4000000 in
set_option maxRecDepth 100000 in
theorem b_X6_move (e : Nat) (hd : 1 ≤ e) (v1 : Int32) (v2 : Int32) (v3 : Int32) (v4 : Int32) (v5 : Int32) (m : ej_M) {x : (Int32 × ej_M)} {res : Option Value × ej_H} {K : (Int32 × ej_M) → Prop} (hf : f_X6_move v1 v2 v3 v4 v5 m = some x) (hK : K x) (h0 : ∀ q : (Int32 × ej_M), K q → res = (some (Value.int q.1), (ej_sh, q.2))) : ej_Z cX6_move 9 (some .boolean) RX6 "move" (e + 1) 0 [(0, .ref 37), (1, .int v1), (2, .int v2), (3, .int v3), (4, .int v4), (5, .int v5)] [] (ej_sh, m) res := by
  unfold f_X6_move at hf
  refine z_iload (pc := 0) (i := 5) (j := 5) dX6_move_0 rfl ?_
  refine z_if_lt (pc := 2) (tgt := 14) dX6_move_2 (by decide) (fun hc => ?_) (fun hc => ?_)
  · rw [if_pos hc] at hf
    refine z_iconst (pc := 14) dX6_move_14 ki_0 ?_
    obtain rfl := Option.some.inj hf
    rw [h0 _ hK]
    exact z_iret dX6_move_15 rfl rfl
  · rw [if_neg hc] at hf
    refine z_iload_n (pc := 5) (i := 2) (j := 2) dX6_move_5 rfl rfl ?_
    refine z_if_lt (pc := 6) (tgt := 14) dX6_move_6 (by decide) (fun hc => ?_) (fun hc => ?_)
    · rw [if_pos hc] at hf
      refine z_iconst (pc := 14) dX6_move_14 ki_0 ?_
      obtain rfl := Option.some.inj hf
      rw [h0 _ hK]
      exact z_iret dX6_move_15 rfl rfl
    · rw [if_neg hc] at hf
      refine z_iload (pc := 9) (i := 4) (j := 4) dX6_move_9 rfl ?_
      refine z_if_ge (pc := 11) (tgt := 16) dX6_move_11 (by decide) (fun hc => ?_) (fun hc => ?_)
      · rw [if_pos hc] at hf
        refine z_iload_n (pc := 16) (i := 2) (j := 2) dX6_move_16 rfl rfl ?_
        refine z_aload_n (pc := 17) (i := 0) (j := 0) dX6_move_17 rfl rfl ?_
        refine z_iload_n (pc := 18) (i := 1) (j := 1) dX6_move_18 rfl rfl ?_
        obtain ⟨q1, hq1, hf⟩ := Option.bind_eq_some_iff.mp hf
        refine z_oVi (pc := 19) (as := [.int v1]) (rest := [.int v2]) dX6_move_19 lm_RX6_48 mf_X6_length mi_X6_length mv_X6_length rc_37 rfl rfl (Nat.le_of_ble_eq_true rfl) (c_X6_length e (by omega) v1 m hq1) ?_
        refine z_iload (pc := 22) (i := 5) (j := 5) dX6_move_22 rfl ?_
        refine z_isub (pc := 24) dX6_move_24 ?_
        refine z_icmp_gt (pc := 25) (tgt := 41) dX6_move_25 (by decide) (fun hc => ?_) (fun hc => ?_)
        · rw [if_pos hc] at hf
          refine z_iconst (pc := 41) dX6_move_41 ki_0 ?_
          obtain rfl := Option.some.inj hf
          rw [h0 _ hK]
          exact z_iret dX6_move_42 rfl rfl
        · rw [if_neg hc] at hf
          refine z_iload (pc := 28) (i := 4) (j := 4) dX6_move_28 rfl ?_
          refine z_aload_n (pc := 30) (i := 0) (j := 0) dX6_move_30 rfl rfl ?_
          refine z_iload_n (pc := 31) (i := 3) (j := 3) dX6_move_31 rfl rfl ?_
          obtain ⟨q2, hq2, hf⟩ := Option.bind_eq_some_iff.mp hf
          refine z_oVi (pc := 32) (as := [.int v3]) (rest := [.int v4]) dX6_move_32 lm_RX6_48 mf_X6_length mi_X6_length mv_X6_length rc_37 rfl rfl (Nat.le_of_ble_eq_true rfl) (c_X6_length e (by omega) v3 q1.2 hq2) ?_
          refine z_iload (pc := 35) (i := 5) (j := 5) dX6_move_35 rfl ?_
          refine z_isub (pc := 37) dX6_move_37 ?_
          refine z_icmp_le (pc := 38) (tgt := 43) dX6_move_38 (by decide) (fun hc => ?_) (fun hc => ?_)
          · rw [if_pos hc] at hf
            refine z_iload_n (pc := 43) (i := 2) (j := 2) dX6_move_43 rfl rfl ?_
            refine z_iload (pc := 44) (i := 4) (j := 4) dX6_move_44 rfl ?_
            refine z_icmp_le (pc := 46) (tgt := 53) dX6_move_46 (by decide) (fun hc => ?_) (fun hc => ?_)
            · rw [if_pos hc] at hf
              refine z_iconst (pc := 53) dX6_move_53 ki_0 ?_
              refine z_istore (pc := 54) (i := 6) (ls' := [(6, .int 0), (0, .ref 37), (1, .int v1), (2, .int v2), (3, .int v3), (4, .int v4), (5, .int v5)]) dX6_move_54 (Nat.le_of_ble_eq_true rfl) rfl ?_
              refine z_iconst (pc := 56) dX6_move_56 ki_0 ?_
              refine z_istore (pc := 57) (i := 7) (ls' := [(7, .int 0), (6, .int 0), (0, .ref 37), (1, .int v1), (2, .int v2), (3, .int v3), (4, .int v4), (5, .int v5)]) dX6_move_57 (Nat.le_of_ble_eq_true rfl) rfl ?_
              exact z_pick [2, 3, 4, 5, 6, 7, 1, 0] rfl (b_X6_move_L59 e hd v1 v2 v3 v4 v5 0 0 q2.2 (K := K) hf hK  h0)
            · rw [if_neg hc] at hf
              refine z_iconst (pc := 49) dX6_move_49 ki_1 ?_
              refine z_goto (pc := 50) (tgt := 54) dX6_move_50 (by decide) ?_
              refine z_istore (pc := 54) (i := 6) (ls' := [(6, .int 1), (0, .ref 37), (1, .int v1), (2, .int v2), (3, .int v3), (4, .int v4), (5, .int v5)]) dX6_move_54 (Nat.le_of_ble_eq_true rfl) rfl ?_
              refine z_iconst (pc := 56) dX6_move_56 ki_0 ?_
              refine z_istore (pc := 57) (i := 7) (ls' := [(7, .int 0), (6, .int 1), (0, .ref 37), (1, .int v1), (2, .int v2), (3, .int v3), (4, .int v4), (5, .int v5)]) dX6_move_57 (Nat.le_of_ble_eq_true rfl) rfl ?_
              exact z_pick [2, 3, 4, 5, 6, 7, 1, 0] rfl (b_X6_move_L59 e hd v1 v2 v3 v4 v5 1 0 q2.2 (K := K) hf hK  h0)
          · rw [if_neg hc] at hf
            refine z_iconst (pc := 41) dX6_move_41 ki_0 ?_
            obtain rfl := Option.some.inj hf
            rw [h0 _ hK]
            exact z_iret dX6_move_42 rfl rfl
      · rw [if_neg hc] at hf
        refine z_iconst (pc := 14) dX6_move_14 ki_0 ?_
        obtain rfl := Option.some.inj hf
        rw [h0 _ hK]
        exact z_iret dX6_move_15 rfl rfl
set_option maxHeartbeats 4000000 in
set_option maxRecDepth 100000 in
theorem c_X6_move (d : Nat) (hd : 2 ≤ d) (v1 : Int32) (v2 : Int32) (v3 : Int32) (v4 : Int32) (v5 : Int32) (m : ej_M) {q : (Int32 × ej_M)} (hf : f_X6_move v1 v2 v3 v4 v5 m = some q) : ej_Ct yX6_move cX6_move 9 (some .boolean) d [.ref 37, .int v1, .int v2, .int v3, .int v4, .int v5] (ej_sh, m) ((some (Value.int q.1), (ej_sh, q.2)) : Option Value × ej_H) := by
  obtain ⟨e, rfl⟩ : ∃ e, d = e + 1 := ⟨d - 1, by omega⟩
  exact z_met (by decide +kernel) (Nat.le_of_ble_eq_true rfl) (b_X6_move e (by omega) v1 v2 v3 v4 v5 m (K := fun z => ((some (Value.int q.1), (ej_sh, q.2)) : Option Value × ej_H) = (some (Value.int z.1), (ej_sh, z.2))) hf rfl (fun _ h => h))
def f_X6_refusesPair (v1 : Int32) (v2 : Int32) (m : ej_M) : Option (Int32 × ej_M) :=
  (f_X6_has v1 m).bind fun q1 =>
  if q1.1 = 0 then
    some ((-1), q1.2)
  else
    (f_X6_has v2 q1.2).bind fun q2 =>
    if q2.1 = 0 then
      some ((-1), q2.2)
    else
      (f_X6_isEmpty v1 q2.2).bind fun q3 =>
      if q3.1 = 0 then
        (f_X6_isEmpty v2 q3.2).bind fun q4 =>
        if q4.1 = 0 then
          (f_X10_at 38 v1 q4.2).bind fun q5 =>
          if q5.1 < 0 then
            some ((-12), q5.2)
          else
            (f_X10_at 38 v1 q5.2).bind fun q6 =>
            (f_X10_at 38 v2 q6.2).bind fun q7 =>
            if q6.1 = q7.1 then
              some (0, q7.2)
            else
              some ((-12), q7.2)
        else
          some ((-11), q4.2)
      else
        some ((-11), q3.2)
set_option maxHeartbeats 4000000 in
set_option maxRecDepth 100000 in
theorem b_X6_refusesPair (e : Nat) (hd : 1 ≤ e) (v1 : Int32) (v2 : Int32) (m : ej_M) {x : (Int32 × ej_M)} {res : Option Value × ej_H} {K : (Int32 × ej_M) → Prop} (hf : f_X6_refusesPair v1 v2 m = some x) (hK : K x) (h0 : ∀ q : (Int32 × ej_M), K q → res = (some (Value.int q.1), (ej_sh, q.2))) : ej_Z cX6_refusesPair 3 (some .int) RX6 "refusesPair" (e + 1) 0 [(0, .ref 37), (1, .int v1), (2, .int v2)] [] (ej_sh, m) res := by
  unfold f_X6_refusesPair at hf
  refine z_aload_n (pc := 0) (i := 0) (j := 0) dX6_refusesPair_0 rfl rfl ?_
  refine z_iload_n (pc := 1) (i := 1) (j := 1) dX6_refusesPair_1 rfl rfl ?_
  obtain ⟨q1, hq1, hf⟩ := Option.bind_eq_some_iff.mp hf
  refine z_oVi (pc := 2) (as := [.int v1]) (rest := []) dX6_refusesPair_2 lm_RX6_34 mf_X6_has mi_X6_has mv_X6_has rc_37 rfl rfl (Nat.le_of_ble_eq_true rfl) (c_X6_has e (by omega) v1 m hq1) ?_
  refine z_if_eq (pc := 5) (tgt := 16) dX6_refusesPair_5 (by decide) (fun hc => ?_) (fun hc => ?_)
  · rw [if_pos hc] at hf
    refine z_iconst (pc := 16) dX6_refusesPair_16 ki_n1 ?_
    obtain rfl := Option.some.inj hf
    rw [h0 _ hK]
    exact z_iret dX6_refusesPair_17 rfl rfl
  · rw [if_neg hc] at hf
    refine z_aload_n (pc := 8) (i := 0) (j := 0) dX6_refusesPair_8 rfl rfl ?_
    refine z_iload_n (pc := 9) (i := 2) (j := 2) dX6_refusesPair_9 rfl rfl ?_
    obtain ⟨q2, hq2, hf⟩ := Option.bind_eq_some_iff.mp hf
    refine z_oVi (pc := 10) (as := [.int v2]) (rest := []) dX6_refusesPair_10 lm_RX6_34 mf_X6_has mi_X6_has mv_X6_has rc_37 rfl rfl (Nat.le_of_ble_eq_true rfl) (c_X6_has e (by omega) v2 q1.2 hq2) ?_
    refine z_if_ne (pc := 13) (tgt := 18) dX6_refusesPair_13 (by decide) (fun hc => ?_) (fun hc => ?_)
    · rw [if_neg hc] at hf
      refine z_aload_n (pc := 18) (i := 0) (j := 0) dX6_refusesPair_18 rfl rfl ?_
      refine z_iload_n (pc := 19) (i := 1) (j := 1) dX6_refusesPair_19 rfl rfl ?_
      obtain ⟨q3, hq3, hf⟩ := Option.bind_eq_some_iff.mp hf
      refine z_oVi (pc := 20) (as := [.int v1]) (rest := []) dX6_refusesPair_20 lm_RX6_38 mf_X6_isEmpty mi_X6_isEmpty mv_X6_isEmpty rc_37 rfl rfl (Nat.le_of_ble_eq_true rfl) (c_X6_isEmpty e (by omega) v1 q2.2 hq3) ?_
      refine z_if_ne (pc := 23) (tgt := 34) dX6_refusesPair_23 (by decide) (fun hc => ?_) (fun hc => ?_)
      · rw [if_neg hc] at hf
        refine z_bipush (pc := 34) dX6_refusesPair_34 kb_n11 ?_
        obtain rfl := Option.some.inj hf
        rw [h0 _ hK]
        exact z_iret dX6_refusesPair_36 rfl rfl
      · rw [if_pos hc] at hf
        refine z_aload_n (pc := 26) (i := 0) (j := 0) dX6_refusesPair_26 rfl rfl ?_
        refine z_iload_n (pc := 27) (i := 2) (j := 2) dX6_refusesPair_27 rfl rfl ?_
        obtain ⟨q4, hq4, hf⟩ := Option.bind_eq_some_iff.mp hf
        refine z_oVi (pc := 28) (as := [.int v2]) (rest := []) dX6_refusesPair_28 lm_RX6_38 mf_X6_isEmpty mi_X6_isEmpty mv_X6_isEmpty rc_37 rfl rfl (Nat.le_of_ble_eq_true rfl) (c_X6_isEmpty e (by omega) v2 q3.2 hq4) ?_
        refine z_if_eq (pc := 31) (tgt := 37) dX6_refusesPair_31 (by decide) (fun hc => ?_) (fun hc => ?_)
        · rw [if_pos hc] at hf
          refine z_aload_n (pc := 37) (i := 0) (j := 0) dX6_refusesPair_37 rfl rfl ?_
          refine z_ogetR (pc := 38) dX6_refusesPair_38 lf_RX6_11 sh_37 rfl rfl rfl ?_
          refine z_iload_n (pc := 41) (i := 1) (j := 1) dX6_refusesPair_41 rfl rfl ?_
          obtain ⟨q5, hq5, hf⟩ := Option.bind_eq_some_iff.mp hf
          refine z_oSi (pc := 42) (as := [.ref 38, .int v1]) (rest := []) dX6_refusesPair_42 lm_RX6_26 mf_X10_at ms_X10_at rfl rfl (Nat.le_of_ble_eq_true rfl) (c_X10_at e (by omega) 38 v1 q4.2 hq5) ?_
          refine z_if_lt (pc := 45) (tgt := 71) dX6_refusesPair_45 (by decide) (fun hc => ?_) (fun hc => ?_)
          · rw [if_pos hc] at hf
            refine z_bipush (pc := 71) dX6_refusesPair_71 kb_n12 ?_
            obtain rfl := Option.some.inj hf
            rw [h0 _ hK]
            exact z_iret dX6_refusesPair_73 rfl rfl
          · rw [if_neg hc] at hf
            refine z_aload_n (pc := 48) (i := 0) (j := 0) dX6_refusesPair_48 rfl rfl ?_
            refine z_ogetR (pc := 49) dX6_refusesPair_49 lf_RX6_11 sh_37 rfl rfl rfl ?_
            refine z_iload_n (pc := 52) (i := 1) (j := 1) dX6_refusesPair_52 rfl rfl ?_
            obtain ⟨q6, hq6, hf⟩ := Option.bind_eq_some_iff.mp hf
            refine z_oSi (pc := 53) (as := [.ref 38, .int v1]) (rest := []) dX6_refusesPair_53 lm_RX6_26 mf_X10_at ms_X10_at rfl rfl (Nat.le_of_ble_eq_true rfl) (c_X10_at e (by omega) 38 v1 q5.2 hq6) ?_
            refine z_aload_n (pc := 56) (i := 0) (j := 0) dX6_refusesPair_56 rfl rfl ?_
            refine z_ogetR (pc := 57) dX6_refusesPair_57 lf_RX6_11 sh_37 rfl rfl rfl ?_
            refine z_iload_n (pc := 60) (i := 2) (j := 2) dX6_refusesPair_60 rfl rfl ?_
            obtain ⟨q7, hq7, hf⟩ := Option.bind_eq_some_iff.mp hf
            refine z_oSi (pc := 61) (as := [.ref 38, .int v2]) (rest := [.int q6.1]) dX6_refusesPair_61 lm_RX6_26 mf_X10_at ms_X10_at rfl rfl (Nat.le_of_ble_eq_true rfl) (c_X10_at e (by omega) 38 v2 q6.2 hq7) ?_
            refine z_icmp_ne (pc := 64) (tgt := 71) dX6_refusesPair_64 (by decide) (fun hc => ?_) (fun hc => ?_)
            · rw [if_neg hc] at hf
              refine z_bipush (pc := 71) dX6_refusesPair_71 kb_n12 ?_
              obtain rfl := Option.some.inj hf
              rw [h0 _ hK]
              exact z_iret dX6_refusesPair_73 rfl rfl
            · rw [if_pos hc] at hf
              refine z_iconst (pc := 67) dX6_refusesPair_67 ki_0 ?_
              refine z_goto (pc := 68) (tgt := 73) dX6_refusesPair_68 (by decide) ?_
              obtain rfl := Option.some.inj hf
              rw [h0 _ hK]
              exact z_iret dX6_refusesPair_73 rfl rfl
        · rw [if_neg hc] at hf
          refine z_bipush (pc := 34) dX6_refusesPair_34 kb_n11 ?_
          obtain rfl := Option.some.inj hf
          rw [h0 _ hK]
          exact z_iret dX6_refusesPair_36 rfl rfl
    · rw [if_pos hc] at hf
      refine z_iconst (pc := 16) dX6_refusesPair_16 ki_n1 ?_
      obtain rfl := Option.some.inj hf
      rw [h0 _ hK]
      exact z_iret dX6_refusesPair_17 rfl rfl
set_option maxHeartbeats 4000000 in
set_option maxRecDepth 100000 in
theorem c_X6_refusesPair (d : Nat) (hd : 2 ≤ d) (v1 : Int32) (v2 : Int32) (m : ej_M) {q : (Int32 × ej_M)} (hf : f_X6_refusesPair v1 v2 m = some q) : ej_Ct yX6_refusesPair cX6_refusesPair 3 (some .int) d [.ref 37, .int v1, .int v2] (ej_sh, m) ((some (Value.int q.1), (ej_sh, q.2)) : Option Value × ej_H) := by
  obtain ⟨e, rfl⟩ : ∃ e, d = e + 1 := ⟨d - 1, by omega⟩
  exact z_met (by decide +kernel) (Nat.le_of_ble_eq_true rfl) (b_X6_refusesPair e (by omega) v1 v2 m (K := fun z => ((some (Value.int q.1), (ej_sh, q.2)) : Option Value × ej_H) = (some (Value.int z.1), (ej_sh, z.2))) hf rfl (fun _ h => h))
def f_X10_shift (v1 : Int32) (v2 : Int32) (v3 : Int32) (v4 : Int32) (v5 : Int32) (m : ej_M) : Option (Int32 × ej_M) :=
  (f_X6_refusesPair v1 v3 m).bind fun q1 =>
  if q1.1 = 0 then
    (f_X6_move v1 v2 v3 v4 v5 q1.2).bind fun q2 =>
    if q2.1 = 0 then
      some ((-13), q2.2)
    else
      some (v5, q2.2)
  else
    some (q1.1, q1.2)
set_option maxHeartbeats 4000000 in
set_option maxRecDepth 100000 in
theorem b_X10_shift (e : Nat) (hd : 2 ≤ e) (v1 : Int32) (v2 : Int32) (v3 : Int32) (v4 : Int32) (v5 : Int32) (m : ej_M) {x : (Int32 × ej_M)} {res : Option Value × ej_H} {K : (Int32 × ej_M) → Prop} (hf : f_X10_shift v1 v2 v3 v4 v5 m = some x) (hK : K x) (h0 : ∀ q : (Int32 × ej_M), K q → res = (some (Value.int q.1), (ej_sh, q.2))) : ej_Z cX10_shift 7 (some .int) RX10 "shift" (e + 1) 0 [(0, .ref 0), (1, .int v1), (2, .int v2), (3, .int v3), (4, .int v4), (5, .int v5)] [] (ej_sh, m) res := by
  unfold f_X10_shift at hf
  refine z_aload_n (pc := 0) (i := 0) (j := 0) dX10_shift_0 rfl rfl ?_
  refine z_ogetR (pc := 1) dX10_shift_1 lf_RX10_79 sh_0 rfl rfl rfl ?_
  refine z_iload_n (pc := 4) (i := 1) (j := 1) dX10_shift_4 rfl rfl ?_
  refine z_iload_n (pc := 5) (i := 3) (j := 3) dX10_shift_5 rfl rfl ?_
  obtain ⟨q1, hq1, hf⟩ := Option.bind_eq_some_iff.mp hf
  refine z_oVi (pc := 6) (as := [.int v1, .int v3]) (rest := []) dX10_shift_6 lm_RX10_279 mf_X6_refusesPair mi_X6_refusesPair mv_X6_refusesPair rc_37 rfl rfl (Nat.le_of_ble_eq_true rfl) (c_X6_refusesPair e (by omega) v1 v3 m hq1) ?_
  refine z_istore (pc := 9) (i := 6) (ls' := [(6, .int q1.1), (0, .ref 0), (1, .int v1), (2, .int v2), (3, .int v3), (4, .int v4), (5, .int v5)]) dX10_shift_9 (Nat.le_of_ble_eq_true rfl) rfl ?_
  refine z_iload (pc := 11) (i := 6) (j := 0) dX10_shift_11 rfl ?_
  refine z_if_eq (pc := 13) (tgt := 19) dX10_shift_13 (by decide) (fun hc => ?_) (fun hc => ?_)
  · rw [if_pos hc] at hf
    refine z_aload_n (pc := 19) (i := 0) (j := 1) dX10_shift_19 rfl rfl ?_
    refine z_ogetR (pc := 20) dX10_shift_20 lf_RX10_79 sh_0 rfl rfl rfl ?_
    refine z_iload_n (pc := 23) (i := 1) (j := 2) dX10_shift_23 rfl rfl ?_
    refine z_iload_n (pc := 24) (i := 2) (j := 3) dX10_shift_24 rfl rfl ?_
    refine z_iload_n (pc := 25) (i := 3) (j := 4) dX10_shift_25 rfl rfl ?_
    refine z_iload (pc := 26) (i := 4) (j := 5) dX10_shift_26 rfl ?_
    refine z_iload (pc := 28) (i := 5) (j := 6) dX10_shift_28 rfl ?_
    obtain ⟨q2, hq2, hf⟩ := Option.bind_eq_some_iff.mp hf
    refine z_oVi (pc := 30) (as := [.int v1, .int v2, .int v3, .int v4, .int v5]) (rest := []) dX10_shift_30 lm_RX10_282 mf_X6_move mi_X6_move mv_X6_move rc_37 rfl rfl (Nat.le_of_ble_eq_true rfl) (c_X6_move e (by omega) v1 v2 v3 v4 v5 q1.2 hq2) ?_
    refine z_if_eq (pc := 33) (tgt := 41) dX10_shift_33 (by decide) (fun hc => ?_) (fun hc => ?_)
    · rw [if_pos hc] at hf
      refine z_bipush (pc := 41) dX10_shift_41 kb_n13 ?_
      obtain rfl := Option.some.inj hf
      rw [h0 _ hK]
      exact z_iret dX10_shift_43 rfl rfl
    · rw [if_neg hc] at hf
      refine z_iload (pc := 36) (i := 5) (j := 6) dX10_shift_36 rfl ?_
      refine z_goto (pc := 38) (tgt := 43) dX10_shift_38 (by decide) ?_
      obtain rfl := Option.some.inj hf
      rw [h0 _ hK]
      exact z_iret dX10_shift_43 rfl rfl
  · rw [if_neg hc] at hf
    refine z_iload (pc := 16) (i := 6) (j := 0) dX10_shift_16 rfl ?_
    obtain rfl := Option.some.inj hf
    rw [h0 _ hK]
    exact z_iret dX10_shift_18 rfl rfl
set_option maxHeartbeats 4000000 in
set_option maxRecDepth 100000 in
theorem c_X10_shift (d : Nat) (hd : 3 ≤ d) (v1 : Int32) (v2 : Int32) (v3 : Int32) (v4 : Int32) (v5 : Int32) (m : ej_M) {q : (Int32 × ej_M)} (hf : f_X10_shift v1 v2 v3 v4 v5 m = some q) : ej_Ct yX10_shift cX10_shift 7 (some .int) d [.ref 0, .int v1, .int v2, .int v3, .int v4, .int v5] (ej_sh, m) ((some (Value.int q.1), (ej_sh, q.2)) : Option Value × ej_H) := by
  obtain ⟨e, rfl⟩ : ∃ e, d = e + 1 := ⟨d - 1, by omega⟩
  exact z_met (by decide +kernel) (Nat.le_of_ble_eq_true rfl) (b_X10_shift e (by omega) v1 v2 v3 v4 v5 m (K := fun z => ((some (Value.int q.1), (ej_sh, q.2)) : Option Value × ej_H) = (some (Value.int z.1), (ej_sh, z.2))) hf rfl (fun _ h => h))
def f_X11_shift_L150b (v3 : Int32) (v4 : Int32) (v5 : Int32) (v6 : Int32) (m : ej_M) : Option ((Int32 × ej_M) ⊕ (Int32 × ej_M)) :=
  if v5 ≤ v6 then
    some (Sum.inr (v5, m))
  else
    (oj_ll m 69 v6).bind fun w1 =>
    (oj_sl m 68 (((60 * v3) + v4) + v6) w1).bind fun m2 =>
    some (Sum.inl ((v6 + 1), m2))
set_option maxHeartbeats 4000000 in
set_option maxRecDepth 100000 in
theorem b_X11_shift_L150b (e : Nat) (hd : 1 ≤ e) (v3 : Int32) (v4 : Int32) (v5 : Int32) (v6 : Int32) (m : ej_M) {x : ((Int32 × ej_M) ⊕ (Int32 × ej_M))} {res : Option Value × ej_H} {K : ((Int32 × ej_M) ⊕ (Int32 × ej_M)) → Prop} (hf : f_X11_shift_L150b v3 v4 v5 v6 m = some x) (hK : K x) (h1 : ∀ q : (Int32 × ej_M), K (Sum.inl q) → ej_Z cX11_shift 7 (some .int) RX11 "shift" (e + 1) 150 [(0, .ref 41), (3, .int v3), (4, .int v4), (5, .int v5), (6, .int q.1)] [] (ej_sh, q.2) res) (h0 : ∀ q : (Int32 × ej_M), K (Sum.inr q) → res = (some (Value.int q.1), (ej_sh, q.2))) : ej_Z cX11_shift 7 (some .int) RX11 "shift" (e + 1) 150 [(0, .ref 41), (3, .int v3), (4, .int v4), (5, .int v5), (6, .int v6)] [] (ej_sh, m) res := by
  unfold f_X11_shift_L150b at hf
  refine z_iload (pc := 150) (i := 6) (j := 4) dX11_shift_150 rfl ?_
  refine z_iload (pc := 152) (i := 5) (j := 3) dX11_shift_152 rfl ?_
  refine z_icmp_ge (pc := 154) (tgt := 185) dX11_shift_154 (by decide) (fun hc => ?_) (fun hc => ?_)
  · rw [if_pos hc] at hf
    refine z_iload (pc := 185) (i := 5) (j := 3) dX11_shift_185 rfl ?_
    obtain rfl := Option.some.inj hf
    rw [h0 _ hK]
    exact z_iret dX11_shift_187 rfl rfl
  · rw [if_neg hc] at hf
    refine z_aload_n (pc := 157) (i := 0) (j := 0) dX11_shift_157 rfl rfl ?_
    refine z_ogetR (pc := 158) dX11_shift_158 lf_RX11_90 sh_41 rfl rfl rfl ?_
    refine z_bipush (pc := 161) dX11_shift_161 kb_60 ?_
    refine z_iload_n (pc := 163) (i := 3) (j := 1) dX11_shift_163 rfl rfl ?_
    refine z_imul (pc := 164) dX11_shift_164 ?_
    refine z_iload (pc := 165) (i := 4) (j := 2) dX11_shift_165 rfl ?_
    refine z_iadd (pc := 167) dX11_shift_167 ?_
    refine z_iload (pc := 168) (i := 6) (j := 4) dX11_shift_168 rfl ?_
    refine z_iadd (pc := 170) dX11_shift_170 ?_
    refine z_aload_n (pc := 171) (i := 0) (j := 0) dX11_shift_171 rfl rfl ?_
    refine z_ogetR (pc := 172) dX11_shift_172 lf_RX11_94 sh_41 rfl rfl rfl ?_
    refine z_iload (pc := 175) (i := 6) (j := 4) dX11_shift_175 rfl ?_
    obtain ⟨w1, hw1, hf⟩ := Option.bind_eq_some_iff.mp hf
    refine z_olald (pc := 177) dX11_shift_177 hw1 ?_
    obtain ⟨m2, hm2, hf⟩ := Option.bind_eq_some_iff.mp hf
    refine z_olast (pc := 178) dX11_shift_178 hm2 ?_
    refine z_iinc (pc := 179) (j := 4) (ls' := [(6, .int (v6 + 1)), (0, .ref 41), (3, .int v3), (4, .int v4), (5, .int v5)]) dX11_shift_179 rfl ki_1 (Nat.le_of_ble_eq_true rfl) rfl ?_
    refine z_goto (pc := 182) (tgt := 150) dX11_shift_182 (by decide) ?_
    obtain rfl := Option.some.inj hf
    exact z_pick (ls' := [(0, .ref 41), (3, .int v3), (4, .int v4), (5, .int v5), (6, .int (v6 + 1))]) [1, 2, 3, 4, 0] rfl (h1 ((v6 + 1), m2) hK)
def f_X11_shift_L150 (v3 : Int32) (v4 : Int32) (v5 : Int32) (v6 : Int32) (m : ej_M) : Option (Int32 × ej_M) := oj_loop (fun q : (Int32 × ej_M) => f_X11_shift_L150b v3 v4 v5 q.1 q.2) oj_FU (v6, m)
set_option maxHeartbeats 4000000 in
set_option maxRecDepth 100000 in
theorem b_X11_shift_L150 (e : Nat) (hd : 1 ≤ e) (v3 : Int32) (v4 : Int32) (v5 : Int32) (v6 : Int32) (m : ej_M) {x : (Int32 × ej_M)} {res : Option Value × ej_H} {K : (Int32 × ej_M) → Prop} (hf : f_X11_shift_L150 v3 v4 v5 v6 m = some x) (hK : K x) (h0 : ∀ q : (Int32 × ej_M), K q → res = (some (Value.int q.1), (ej_sh, q.2))) : ej_Z cX11_shift 7 (some .int) RX11 "shift" (e + 1) 150 [(0, .ref 41), (3, .int v3), (4, .int v4), (5, .int v5), (6, .int v6)] [] (ej_sh, m) res :=
  oj_loop_Z (body := fun q : (Int32 × ej_M) => f_X11_shift_L150b v3 v4 v5 q.1 q.2) (P := fun q : (Int32 × ej_M) => ej_Z cX11_shift 7 (some .int) RX11 "shift" (e + 1) 150 [(0, .ref 41), (3, .int v3), (4, .int v4), (5, .int v5), (6, .int q.1)] [] (ej_sh, q.2) res) (K := K) (fun s x hb hl hr => b_X11_shift_L150b e hd v3 v4 v5  s.1 s.2 (K := fun x => (∀ s' : (Int32 × ej_M), x = Sum.inl s' → ej_Z cX11_shift 7 (some .int) RX11 "shift" (e + 1) 150 [(0, .ref 41), (3, .int v3), (4, .int v4), (5, .int v5), (6, .int s'.1)] [] (ej_sh, s'.2) res) ∧ ∀ e, x = Sum.inr e → K e) hb ⟨hl, hr⟩ (fun q hq => hq.1 q rfl) (fun q hq => h0 q (hq.2 _ rfl))) oj_FU (v6, m) x hf hK
def f_X11_shift_L113b (v1 : Int32) (v2 : Int32) (v3 : Int32) (v4 : Int32) (v5 : Int32) (v6 : Int32) (m : ej_M) : Option ((Int32 × ej_M) ⊕ (Int32 × ej_M)) :=
  if v5 ≤ v6 then
    (f_X11_shift_L150 v3 v4 v5 0 m).map fun y => (Sum.inr y)
  else
    (oj_ll m 68 (((60 * v1) + v2) + v6)).bind fun w1 =>
    (oj_sl m 69 v6 w1).bind fun m2 =>
    some (Sum.inl ((v6 + 1), m2))
set_option maxHeartbeats 4000000 in
set_option maxRecDepth 100000 in
theorem b_X11_shift_L113b (e : Nat) (hd : 1 ≤ e) (v1 : Int32) (v2 : Int32) (v3 : Int32) (v4 : Int32) (v5 : Int32) (v6 : Int32) (m : ej_M) {x : ((Int32 × ej_M) ⊕ (Int32 × ej_M))} {res : Option Value × ej_H} {K : ((Int32 × ej_M) ⊕ (Int32 × ej_M)) → Prop} (hf : f_X11_shift_L113b v1 v2 v3 v4 v5 v6 m = some x) (hK : K x) (h1 : ∀ q : (Int32 × ej_M), K (Sum.inl q) → ej_Z cX11_shift 7 (some .int) RX11 "shift" (e + 1) 113 [(0, .ref 41), (1, .int v1), (2, .int v2), (3, .int v3), (4, .int v4), (5, .int v5), (6, .int q.1)] [] (ej_sh, q.2) res) (h0 : ∀ q : (Int32 × ej_M), K (Sum.inr q) → res = (some (Value.int q.1), (ej_sh, q.2))) : ej_Z cX11_shift 7 (some .int) RX11 "shift" (e + 1) 113 [(0, .ref 41), (1, .int v1), (2, .int v2), (3, .int v3), (4, .int v4), (5, .int v5), (6, .int v6)] [] (ej_sh, m) res := by
  unfold f_X11_shift_L113b at hf
  refine z_iload (pc := 113) (i := 6) (j := 6) dX11_shift_113 rfl ?_
  refine z_iload (pc := 115) (i := 5) (j := 5) dX11_shift_115 rfl ?_
  refine z_icmp_ge (pc := 117) (tgt := 147) dX11_shift_117 (by decide) (fun hc => ?_) (fun hc => ?_)
  · rw [if_pos hc] at hf
    refine z_iconst (pc := 147) dX11_shift_147 ki_0 ?_
    refine z_istore (pc := 148) (i := 6) (ls' := [(6, .int 0), (0, .ref 41), (1, .int v1), (2, .int v2), (3, .int v3), (4, .int v4), (5, .int v5)]) dX11_shift_148 (Nat.le_of_ble_eq_true rfl) rfl ?_
    obtain ⟨y, hy, hxy⟩ := Option.map_eq_some_iff.mp hf
    subst hxy
    exact z_pick [1, 4, 5, 6, 0] rfl (b_X11_shift_L150 e hd v3 v4 v5 0 m (K := fun y => K (Sum.inr y)) hy hK  h0)
  · rw [if_neg hc] at hf
    refine z_aload_n (pc := 120) (i := 0) (j := 0) dX11_shift_120 rfl rfl ?_
    refine z_ogetR (pc := 121) dX11_shift_121 lf_RX11_94 sh_41 rfl rfl rfl ?_
    refine z_iload (pc := 124) (i := 6) (j := 6) dX11_shift_124 rfl ?_
    refine z_aload_n (pc := 126) (i := 0) (j := 0) dX11_shift_126 rfl rfl ?_
    refine z_ogetR (pc := 127) dX11_shift_127 lf_RX11_90 sh_41 rfl rfl rfl ?_
    refine z_bipush (pc := 130) dX11_shift_130 kb_60 ?_
    refine z_iload_n (pc := 132) (i := 1) (j := 1) dX11_shift_132 rfl rfl ?_
    refine z_imul (pc := 133) dX11_shift_133 ?_
    refine z_iload_n (pc := 134) (i := 2) (j := 2) dX11_shift_134 rfl rfl ?_
    refine z_iadd (pc := 135) dX11_shift_135 ?_
    refine z_iload (pc := 136) (i := 6) (j := 6) dX11_shift_136 rfl ?_
    refine z_iadd (pc := 138) dX11_shift_138 ?_
    obtain ⟨w1, hw1, hf⟩ := Option.bind_eq_some_iff.mp hf
    refine z_olald (pc := 139) dX11_shift_139 hw1 ?_
    obtain ⟨m2, hm2, hf⟩ := Option.bind_eq_some_iff.mp hf
    refine z_olast (pc := 140) dX11_shift_140 hm2 ?_
    refine z_iinc (pc := 141) (j := 6) (ls' := [(6, .int (v6 + 1)), (0, .ref 41), (1, .int v1), (2, .int v2), (3, .int v3), (4, .int v4), (5, .int v5)]) dX11_shift_141 rfl ki_1 (Nat.le_of_ble_eq_true rfl) rfl ?_
    refine z_goto (pc := 144) (tgt := 113) dX11_shift_144 (by decide) ?_
    obtain rfl := Option.some.inj hf
    exact z_pick (ls' := [(0, .ref 41), (1, .int v1), (2, .int v2), (3, .int v3), (4, .int v4), (5, .int v5), (6, .int (v6 + 1))]) [1, 2, 3, 4, 5, 6, 0] rfl (h1 ((v6 + 1), m2) hK)
def f_X11_shift_L113 (v1 : Int32) (v2 : Int32) (v3 : Int32) (v4 : Int32) (v5 : Int32) (v6 : Int32) (m : ej_M) : Option (Int32 × ej_M) := oj_loop (fun q : (Int32 × ej_M) => f_X11_shift_L113b v1 v2 v3 v4 v5 q.1 q.2) oj_FU (v6, m)
set_option maxHeartbeats 4000000 in
set_option maxRecDepth 100000 in
theorem b_X11_shift_L113 (e : Nat) (hd : 1 ≤ e) (v1 : Int32) (v2 : Int32) (v3 : Int32) (v4 : Int32) (v5 : Int32) (v6 : Int32) (m : ej_M) {x : (Int32 × ej_M)} {res : Option Value × ej_H} {K : (Int32 × ej_M) → Prop} (hf : f_X11_shift_L113 v1 v2 v3 v4 v5 v6 m = some x) (hK : K x) (h0 : ∀ q : (Int32 × ej_M), K q → res = (some (Value.int q.1), (ej_sh, q.2))) : ej_Z cX11_shift 7 (some .int) RX11 "shift" (e + 1) 113 [(0, .ref 41), (1, .int v1), (2, .int v2), (3, .int v3), (4, .int v4), (5, .int v5), (6, .int v6)] [] (ej_sh, m) res :=
  oj_loop_Z (body := fun q : (Int32 × ej_M) => f_X11_shift_L113b v1 v2 v3 v4 v5 q.1 q.2) (P := fun q : (Int32 × ej_M) => ej_Z cX11_shift 7 (some .int) RX11 "shift" (e + 1) 113 [(0, .ref 41), (1, .int v1), (2, .int v2), (3, .int v3), (4, .int v4), (5, .int v5), (6, .int q.1)] [] (ej_sh, q.2) res) (K := K) (fun s x hb hl hr => b_X11_shift_L113b e hd v1 v2 v3 v4 v5  s.1 s.2 (K := fun x => (∀ s' : (Int32 × ej_M), x = Sum.inl s' → ej_Z cX11_shift 7 (some .int) RX11 "shift" (e + 1) 113 [(0, .ref 41), (1, .int v1), (2, .int v2), (3, .int v3), (4, .int v4), (5, .int v5), (6, .int s'.1)] [] (ej_sh, s'.2) res) ∧ ∀ e, x = Sum.inr e → K e) hb ⟨hl, hr⟩ (fun q hq => hq.1 q rfl) (fun q hq => h0 q (hq.2 _ rfl))) oj_FU (v6, m) x hf hK
def f_X11_shift (v1 : Int32) (v2 : Int32) (v3 : Int32) (v4 : Int32) (v5 : Int32) (m : ej_M) : Option (Int32 × ej_M) :=
  (f_X11_isShelf v1 m).bind fun q1 =>
  if q1.1 = 0 then
    some ((-1), q1.2)
  else
    (f_X11_isShelf v3 q1.2).bind fun q2 =>
    if q2.1 = 0 then
      some ((-1), q2.2)
    else
      (oj_ld 0 q2.2 66 v1).bind fun w3 =>
      if w3 = (-1) then
        some ((-11), q2.2)
      else
        (oj_ld 0 q2.2 66 v3).bind fun w4 =>
        if w4 = (-1) then
          some ((-11), q2.2)
        else
          (oj_ld 0 q2.2 66 v1).bind fun w5 =>
          if 0 ≤ w5 then
            some ((-12), q2.2)
          else
            (oj_ld 0 q2.2 66 v1).bind fun w6 =>
            (oj_ld 0 q2.2 66 v3).bind fun w7 =>
            if w6 = w7 then
              if v5 < 0 then
                some ((-13), q2.2)
              else
                if v2 < 0 then
                  some ((-13), q2.2)
                else
                  if v4 < 0 then
                    some ((-13), q2.2)
                  else
                    (oj_ld 0 q2.2 67 v1).bind fun w8 =>
                    if (w8 - v5) < v2 then
                      some ((-13), q2.2)
                    else
                      (oj_ld 0 q2.2 67 v3).bind fun w9 =>
                      if v4 ≤ (w9 - v5) then
                        f_X11_shift_L113 v1 v2 v3 v4 v5 0 q2.2
                      else
                        some ((-13), q2.2)
            else
              some ((-12), q2.2)
set_option maxHeartbeats 4000000 in
set_option maxRecDepth 100000 in
theorem b_X11_shift (e : Nat) (hd : 1 ≤ e) (v1 : Int32) (v2 : Int32) (v3 : Int32) (v4 : Int32) (v5 : Int32) (m : ej_M) {x : (Int32 × ej_M)} {res : Option Value × ej_H} {K : (Int32 × ej_M) → Prop} (hf : f_X11_shift v1 v2 v3 v4 v5 m = some x) (hK : K x) (h0 : ∀ q : (Int32 × ej_M), K q → res = (some (Value.int q.1), (ej_sh, q.2))) : ej_Z cX11_shift 7 (some .int) RX11 "shift" (e + 1) 0 [(0, .ref 41), (1, .int v1), (2, .int v2), (3, .int v3), (4, .int v4), (5, .int v5)] [] (ej_sh, m) res := by
  unfold f_X11_shift at hf
  refine z_iload_n (pc := 0) (i := 1) (j := 1) dX11_shift_0 rfl rfl ?_
  obtain ⟨q1, hq1, hf⟩ := Option.bind_eq_some_iff.mp hf
  refine z_oSi (pc := 1) (as := [.int v1]) (rest := []) dX11_shift_1 lm_RX11_115 mf_X11_isShelf ms_X11_isShelf rfl rfl (Nat.le_of_ble_eq_true rfl) (c_X11_isShelf e (by omega) v1 m hq1) ?_
  refine z_if_eq (pc := 4) (tgt := 14) dX11_shift_4 (by decide) (fun hc => ?_) (fun hc => ?_)
  · rw [if_pos hc] at hf
    refine z_iconst (pc := 14) dX11_shift_14 ki_n1 ?_
    obtain rfl := Option.some.inj hf
    rw [h0 _ hK]
    exact z_iret dX11_shift_15 rfl rfl
  · rw [if_neg hc] at hf
    refine z_iload_n (pc := 7) (i := 3) (j := 3) dX11_shift_7 rfl rfl ?_
    obtain ⟨q2, hq2, hf⟩ := Option.bind_eq_some_iff.mp hf
    refine z_oSi (pc := 8) (as := [.int v3]) (rest := []) dX11_shift_8 lm_RX11_115 mf_X11_isShelf ms_X11_isShelf rfl rfl (Nat.le_of_ble_eq_true rfl) (c_X11_isShelf e (by omega) v3 q1.2 hq2) ?_
    refine z_if_ne (pc := 11) (tgt := 16) dX11_shift_11 (by decide) (fun hc => ?_) (fun hc => ?_)
    · rw [if_neg hc] at hf
      refine z_aload_n (pc := 16) (i := 0) (j := 0) dX11_shift_16 rfl rfl ?_
      refine z_ogetR (pc := 17) dX11_shift_17 lf_RX11_84 sh_41 rfl rfl rfl ?_
      refine z_iload_n (pc := 20) (i := 1) (j := 1) dX11_shift_20 rfl rfl ?_
      obtain ⟨w3, hw3, hf⟩ := Option.bind_eq_some_iff.mp hf
      refine z_oiald (pc := 21) dX11_shift_21 hw3 ?_
      refine z_iconst (pc := 22) dX11_shift_22 ki_n1 ?_
      refine z_icmp_eq (pc := 23) (tgt := 36) dX11_shift_23 (by decide) (fun hc => ?_) (fun hc => ?_)
      · rw [if_pos hc] at hf
        refine z_bipush (pc := 36) dX11_shift_36 kb_n11 ?_
        obtain rfl := Option.some.inj hf
        rw [h0 _ hK]
        exact z_iret dX11_shift_38 rfl rfl
      · rw [if_neg hc] at hf
        refine z_aload_n (pc := 26) (i := 0) (j := 0) dX11_shift_26 rfl rfl ?_
        refine z_ogetR (pc := 27) dX11_shift_27 lf_RX11_84 sh_41 rfl rfl rfl ?_
        refine z_iload_n (pc := 30) (i := 3) (j := 3) dX11_shift_30 rfl rfl ?_
        obtain ⟨w4, hw4, hf⟩ := Option.bind_eq_some_iff.mp hf
        refine z_oiald (pc := 31) dX11_shift_31 hw4 ?_
        refine z_iconst (pc := 32) dX11_shift_32 ki_n1 ?_
        refine z_icmp_ne (pc := 33) (tgt := 39) dX11_shift_33 (by decide) (fun hc => ?_) (fun hc => ?_)
        · rw [if_neg hc] at hf
          refine z_aload_n (pc := 39) (i := 0) (j := 0) dX11_shift_39 rfl rfl ?_
          refine z_ogetR (pc := 40) dX11_shift_40 lf_RX11_84 sh_41 rfl rfl rfl ?_
          refine z_iload_n (pc := 43) (i := 1) (j := 1) dX11_shift_43 rfl rfl ?_
          obtain ⟨w5, hw5, hf⟩ := Option.bind_eq_some_iff.mp hf
          refine z_oiald (pc := 44) dX11_shift_44 hw5 ?_
          refine z_if_ge (pc := 45) (tgt := 63) dX11_shift_45 (by decide) (fun hc => ?_) (fun hc => ?_)
          · rw [if_pos hc] at hf
            refine z_bipush (pc := 63) dX11_shift_63 kb_n12 ?_
            obtain rfl := Option.some.inj hf
            rw [h0 _ hK]
            exact z_iret dX11_shift_65 rfl rfl
          · rw [if_neg hc] at hf
            refine z_aload_n (pc := 48) (i := 0) (j := 0) dX11_shift_48 rfl rfl ?_
            refine z_ogetR (pc := 49) dX11_shift_49 lf_RX11_84 sh_41 rfl rfl rfl ?_
            refine z_iload_n (pc := 52) (i := 1) (j := 1) dX11_shift_52 rfl rfl ?_
            obtain ⟨w6, hw6, hf⟩ := Option.bind_eq_some_iff.mp hf
            refine z_oiald (pc := 53) dX11_shift_53 hw6 ?_
            refine z_aload_n (pc := 54) (i := 0) (j := 0) dX11_shift_54 rfl rfl ?_
            refine z_ogetR (pc := 55) dX11_shift_55 lf_RX11_84 sh_41 rfl rfl rfl ?_
            refine z_iload_n (pc := 58) (i := 3) (j := 3) dX11_shift_58 rfl rfl ?_
            obtain ⟨w7, hw7, hf⟩ := Option.bind_eq_some_iff.mp hf
            refine z_oiald (pc := 59) dX11_shift_59 hw7 ?_
            refine z_icmp_eq (pc := 60) (tgt := 66) dX11_shift_60 (by decide) (fun hc => ?_) (fun hc => ?_)
            · rw [if_pos hc] at hf
              refine z_iload (pc := 66) (i := 5) (j := 5) dX11_shift_66 rfl ?_
              refine z_if_lt (pc := 68) (tgt := 107) dX11_shift_68 (by decide) (fun hc => ?_) (fun hc => ?_)
              · rw [if_pos hc] at hf
                refine z_bipush (pc := 107) dX11_shift_107 kb_n13 ?_
                obtain rfl := Option.some.inj hf
                rw [h0 _ hK]
                exact z_iret dX11_shift_109 rfl rfl
              · rw [if_neg hc] at hf
                refine z_iload_n (pc := 71) (i := 2) (j := 2) dX11_shift_71 rfl rfl ?_
                refine z_if_lt (pc := 72) (tgt := 107) dX11_shift_72 (by decide) (fun hc => ?_) (fun hc => ?_)
                · rw [if_pos hc] at hf
                  refine z_bipush (pc := 107) dX11_shift_107 kb_n13 ?_
                  obtain rfl := Option.some.inj hf
                  rw [h0 _ hK]
                  exact z_iret dX11_shift_109 rfl rfl
                · rw [if_neg hc] at hf
                  refine z_iload (pc := 75) (i := 4) (j := 4) dX11_shift_75 rfl ?_
                  refine z_if_lt (pc := 77) (tgt := 107) dX11_shift_77 (by decide) (fun hc => ?_) (fun hc => ?_)
                  · rw [if_pos hc] at hf
                    refine z_bipush (pc := 107) dX11_shift_107 kb_n13 ?_
                    obtain rfl := Option.some.inj hf
                    rw [h0 _ hK]
                    exact z_iret dX11_shift_109 rfl rfl
                  · rw [if_neg hc] at hf
                    refine z_iload_n (pc := 80) (i := 2) (j := 2) dX11_shift_80 rfl rfl ?_
                    refine z_aload_n (pc := 81) (i := 0) (j := 0) dX11_shift_81 rfl rfl ?_
                    refine z_ogetR (pc := 82) dX11_shift_82 lf_RX11_87 sh_41 rfl rfl rfl ?_
                    refine z_iload_n (pc := 85) (i := 1) (j := 1) dX11_shift_85 rfl rfl ?_
                    obtain ⟨w8, hw8, hf⟩ := Option.bind_eq_some_iff.mp hf
                    refine z_oiald (pc := 86) dX11_shift_86 hw8 ?_
                    refine z_iload (pc := 87) (i := 5) (j := 5) dX11_shift_87 rfl ?_
                    refine z_isub (pc := 89) dX11_shift_89 ?_
                    refine z_icmp_gt (pc := 90) (tgt := 107) dX11_shift_90 (by decide) (fun hc => ?_) (fun hc => ?_)
                    · rw [if_pos hc] at hf
                      refine z_bipush (pc := 107) dX11_shift_107 kb_n13 ?_
                      obtain rfl := Option.some.inj hf
                      rw [h0 _ hK]
                      exact z_iret dX11_shift_109 rfl rfl
                    · rw [if_neg hc] at hf
                      refine z_iload (pc := 93) (i := 4) (j := 4) dX11_shift_93 rfl ?_
                      refine z_aload_n (pc := 95) (i := 0) (j := 0) dX11_shift_95 rfl rfl ?_
                      refine z_ogetR (pc := 96) dX11_shift_96 lf_RX11_87 sh_41 rfl rfl rfl ?_
                      refine z_iload_n (pc := 99) (i := 3) (j := 3) dX11_shift_99 rfl rfl ?_
                      obtain ⟨w9, hw9, hf⟩ := Option.bind_eq_some_iff.mp hf
                      refine z_oiald (pc := 100) dX11_shift_100 hw9 ?_
                      refine z_iload (pc := 101) (i := 5) (j := 5) dX11_shift_101 rfl ?_
                      refine z_isub (pc := 103) dX11_shift_103 ?_
                      refine z_icmp_le (pc := 104) (tgt := 110) dX11_shift_104 (by decide) (fun hc => ?_) (fun hc => ?_)
                      · rw [if_pos hc] at hf
                        refine z_iconst (pc := 110) dX11_shift_110 ki_0 ?_
                        refine z_istore (pc := 111) (i := 6) (ls' := [(6, .int 0), (0, .ref 41), (1, .int v1), (2, .int v2), (3, .int v3), (4, .int v4), (5, .int v5)]) dX11_shift_111 (Nat.le_of_ble_eq_true rfl) rfl ?_
                        exact z_pick [1, 2, 3, 4, 5, 6, 0] rfl (b_X11_shift_L113 e hd v1 v2 v3 v4 v5 0 q2.2 (K := K) hf hK  h0)
                      · rw [if_neg hc] at hf
                        refine z_bipush (pc := 107) dX11_shift_107 kb_n13 ?_
                        obtain rfl := Option.some.inj hf
                        rw [h0 _ hK]
                        exact z_iret dX11_shift_109 rfl rfl
            · rw [if_neg hc] at hf
              refine z_bipush (pc := 63) dX11_shift_63 kb_n12 ?_
              obtain rfl := Option.some.inj hf
              rw [h0 _ hK]
              exact z_iret dX11_shift_65 rfl rfl
        · rw [if_pos hc] at hf
          refine z_bipush (pc := 36) dX11_shift_36 kb_n11 ?_
          obtain rfl := Option.some.inj hf
          rw [h0 _ hK]
          exact z_iret dX11_shift_38 rfl rfl
    · rw [if_pos hc] at hf
      refine z_iconst (pc := 14) dX11_shift_14 ki_n1 ?_
      obtain rfl := Option.some.inj hf
      rw [h0 _ hK]
      exact z_iret dX11_shift_15 rfl rfl
set_option maxHeartbeats 4000000 in
set_option maxRecDepth 100000 in
theorem c_X11_shift (d : Nat) (hd : 2 ≤ d) (v1 : Int32) (v2 : Int32) (v3 : Int32) (v4 : Int32) (v5 : Int32) (m : ej_M) {q : (Int32 × ej_M)} (hf : f_X11_shift v1 v2 v3 v4 v5 m = some q) : ej_Ct yX11_shift cX11_shift 7 (some .int) d [.ref 41, .int v1, .int v2, .int v3, .int v4, .int v5] (ej_sh, m) ((some (Value.int q.1), (ej_sh, q.2)) : Option Value × ej_H) := by
  obtain ⟨e, rfl⟩ : ∃ e, d = e + 1 := ⟨d - 1, by omega⟩
  exact z_met (by decide +kernel) (Nat.le_of_ble_eq_true rfl) (b_X11_shift e (by omega) v1 v2 v3 v4 v5 m (K := fun z => ((some (Value.int q.1), (ej_sh, q.2)) : Option Value × ej_H) = (some (Value.int z.1), (ej_sh, z.2))) hf rfl (fun _ h => h))
def f_X0_isUnder_L5b (v2 : Int32) (v3 : Int32) (v4 : Int32) (m : ej_M) : Option ((Int32 × Int32 × ej_M) ⊕ (Int32 × ej_M)) :=
  if 8 ≤ v4 then
    some (Sum.inr (0, m))
  else
    if v3 = (-1) then
      some (Sum.inr (0, m))
    else
      if v3 = v2 then
        some (Sum.inr (1, m))
      else
        (f_X10_at 1000 v3 m).bind fun q1 =>
        some (Sum.inl (q1.1, (v4 + 1), q1.2))
set_option maxHeartbeats 4000000 in
set_option maxRecDepth 100000 in
theorem b_X0_isUnder_L5b (e : Nat) (hd : 0 ≤ e) (v2 : Int32) (v3 : Int32) (v4 : Int32) (m : ej_M) {x : ((Int32 × Int32 × ej_M) ⊕ (Int32 × ej_M))} {res : Option Value × ej_H} {K : ((Int32 × Int32 × ej_M) ⊕ (Int32 × ej_M)) → Prop} (hf : f_X0_isUnder_L5b v2 v3 v4 m = some x) (hK : K x) (h1 : ∀ q : (Int32 × Int32 × ej_M), K (Sum.inl q) → ej_Z cX0_isUnder 5 (some .boolean) RX0 "isUnder" (e + 1) 5 [(2, .int v2), (3, .int q.1), (4, .int q.2.1)] [] (ej_sh, q.2.2) res) (h0 : ∀ q : (Int32 × ej_M), K (Sum.inr q) → res = (some (Value.int q.1), (ej_sh, q.2))) : ej_Z cX0_isUnder 5 (some .boolean) RX0 "isUnder" (e + 1) 5 [(2, .int v2), (3, .int v3), (4, .int v4)] [] (ej_sh, m) res := by
  unfold f_X0_isUnder_L5b at hf
  refine z_iload (pc := 5) (i := 4) (j := 2) dX0_isUnder_5 rfl ?_
  refine z_bipush (pc := 7) dX0_isUnder_7 kb_8 ?_
  refine z_icmp_ge (pc := 9) (tgt := 38) dX0_isUnder_9 (by decide) (fun hc => ?_) (fun hc => ?_)
  · rw [if_pos hc] at hf
    refine z_iconst (pc := 38) dX0_isUnder_38 ki_0 ?_
    obtain rfl := Option.some.inj hf
    rw [h0 _ hK]
    exact z_iret dX0_isUnder_39 rfl rfl
  · rw [if_neg hc] at hf
    refine z_iload_n (pc := 12) (i := 3) (j := 1) dX0_isUnder_12 rfl rfl ?_
    refine z_iconst (pc := 13) dX0_isUnder_13 ki_n1 ?_
    refine z_icmp_eq (pc := 14) (tgt := 38) dX0_isUnder_14 (by decide) (fun hc => ?_) (fun hc => ?_)
    · rw [if_pos hc] at hf
      refine z_iconst (pc := 38) dX0_isUnder_38 ki_0 ?_
      obtain rfl := Option.some.inj hf
      rw [h0 _ hK]
      exact z_iret dX0_isUnder_39 rfl rfl
    · rw [if_neg hc] at hf
      refine z_iload_n (pc := 17) (i := 3) (j := 1) dX0_isUnder_17 rfl rfl ?_
      refine z_iload_n (pc := 18) (i := 2) (j := 0) dX0_isUnder_18 rfl rfl ?_
      refine z_icmp_ne (pc := 19) (tgt := 24) dX0_isUnder_19 (by decide) (fun hc => ?_) (fun hc => ?_)
      · rw [if_neg hc] at hf
        refine z_gets (pc := 24) (a := 1000) dX0_isUnder_24 (by decide) ls_RX0_34 ?_
        refine z_iload_n (pc := 27) (i := 3) (j := 1) dX0_isUnder_27 rfl rfl ?_
        obtain ⟨q1, hq1, hf⟩ := Option.bind_eq_some_iff.mp hf
        refine z_oSi (pc := 28) (as := [.ref 1000, .int v3]) (rest := []) dX0_isUnder_28 lm_RX0_30 mf_X10_at ms_X10_at rfl rfl (Nat.le_of_ble_eq_true rfl) (c_X10_at e (by omega) 1000 v3 m hq1) ?_
        refine z_istore_n (pc := 31) (i := 3) (ls' := [(3, .int q1.1), (2, .int v2), (4, .int v4)]) dX0_isUnder_31 rfl (Nat.le_of_ble_eq_true rfl) rfl ?_
        refine z_iinc (pc := 32) (j := 2) (ls' := [(4, .int (v4 + 1)), (3, .int q1.1), (2, .int v2)]) dX0_isUnder_32 rfl ki_1 (Nat.le_of_ble_eq_true rfl) rfl ?_
        refine z_goto (pc := 35) (tgt := 5) dX0_isUnder_35 (by decide) ?_
        obtain rfl := Option.some.inj hf
        exact z_pick (ls' := [(2, .int v2), (3, .int q1.1), (4, .int (v4 + 1))]) [2, 1, 0] rfl (h1 (q1.1, (v4 + 1), q1.2) hK)
      · rw [if_pos hc] at hf
        refine z_iconst (pc := 22) dX0_isUnder_22 ki_1 ?_
        obtain rfl := Option.some.inj hf
        rw [h0 _ hK]
        exact z_iret dX0_isUnder_23 rfl rfl
def f_X0_isUnder_L5 (v2 : Int32) (v3 : Int32) (v4 : Int32) (m : ej_M) : Option (Int32 × ej_M) := oj_loop (fun q : (Int32 × Int32 × ej_M) => f_X0_isUnder_L5b v2 q.1 q.2.1 q.2.2) oj_FU (v3, v4, m)
set_option maxHeartbeats 4000000 in
set_option maxRecDepth 100000 in
theorem b_X0_isUnder_L5 (e : Nat) (hd : 0 ≤ e) (v2 : Int32) (v3 : Int32) (v4 : Int32) (m : ej_M) {x : (Int32 × ej_M)} {res : Option Value × ej_H} {K : (Int32 × ej_M) → Prop} (hf : f_X0_isUnder_L5 v2 v3 v4 m = some x) (hK : K x) (h0 : ∀ q : (Int32 × ej_M), K q → res = (some (Value.int q.1), (ej_sh, q.2))) : ej_Z cX0_isUnder 5 (some .boolean) RX0 "isUnder" (e + 1) 5 [(2, .int v2), (3, .int v3), (4, .int v4)] [] (ej_sh, m) res :=
  oj_loop_Z (body := fun q : (Int32 × Int32 × ej_M) => f_X0_isUnder_L5b v2 q.1 q.2.1 q.2.2) (P := fun q : (Int32 × Int32 × ej_M) => ej_Z cX0_isUnder 5 (some .boolean) RX0 "isUnder" (e + 1) 5 [(2, .int v2), (3, .int q.1), (4, .int q.2.1)] [] (ej_sh, q.2.2) res) (K := K) (fun s x hb hl hr => b_X0_isUnder_L5b e hd v2  s.1 s.2.1 s.2.2 (K := fun x => (∀ s' : (Int32 × Int32 × ej_M), x = Sum.inl s' → ej_Z cX0_isUnder 5 (some .boolean) RX0 "isUnder" (e + 1) 5 [(2, .int v2), (3, .int s'.1), (4, .int s'.2.1)] [] (ej_sh, s'.2.2) res) ∧ ∀ e, x = Sum.inr e → K e) hb ⟨hl, hr⟩ (fun q hq => hq.1 q rfl) (fun q hq => h0 q (hq.2 _ rfl))) oj_FU (v3, v4, m) x hf hK
def f_X0_isUnder (v1 : Int32) (v2 : Int32) (m : ej_M) : Option (Int32 × ej_M) :=
  f_X0_isUnder_L5 v2 v1 0 m
set_option maxHeartbeats 4000000 in
set_option maxRecDepth 100000 in
theorem b_X0_isUnder (e : Nat) (hd : 0 ≤ e) (v1 : Int32) (v2 : Int32) (m : ej_M) {x : (Int32 × ej_M)} {res : Option Value × ej_H} {K : (Int32 × ej_M) → Prop} (hf : f_X0_isUnder v1 v2 m = some x) (hK : K x) (h0 : ∀ q : (Int32 × ej_M), K q → res = (some (Value.int q.1), (ej_sh, q.2))) : ej_Z cX0_isUnder 5 (some .boolean) RX0 "isUnder" (e + 1) 0 [(0, .ref 34), (1, .int v1), (2, .int v2)] [] (ej_sh, m) res := by
  unfold f_X0_isUnder at hf
  refine z_iload_n (pc := 0) (i := 1) (j := 1) dX0_isUnder_0 rfl rfl ?_
  refine z_istore_n (pc := 1) (i := 3) (ls' := [(3, .int v1), (0, .ref 34), (1, .int v1), (2, .int v2)]) dX0_isUnder_1 rfl (Nat.le_of_ble_eq_true rfl) rfl ?_
  refine z_iconst (pc := 2) dX0_isUnder_2 ki_0 ?_
  refine z_istore (pc := 3) (i := 4) (ls' := [(4, .int 0), (3, .int v1), (0, .ref 34), (1, .int v1), (2, .int v2)]) dX0_isUnder_3 (Nat.le_of_ble_eq_true rfl) rfl ?_
  exact z_pick [4, 1, 0] rfl (b_X0_isUnder_L5 e hd v2 v1 0 m (K := K) hf hK  h0)
set_option maxHeartbeats 4000000 in
set_option maxRecDepth 100000 in
theorem c_X0_isUnder (d : Nat) (hd : 1 ≤ d) (v1 : Int32) (v2 : Int32) (m : ej_M) {q : (Int32 × ej_M)} (hf : f_X0_isUnder v1 v2 m = some q) : ej_Ct yX0_isUnder cX0_isUnder 5 (some .boolean) d [.ref 34, .int v1, .int v2] (ej_sh, m) ((some (Value.int q.1), (ej_sh, q.2)) : Option Value × ej_H) := by
  obtain ⟨e, rfl⟩ : ∃ e, d = e + 1 := ⟨d - 1, by omega⟩
  exact z_met (by decide +kernel) (Nat.le_of_ble_eq_true rfl) (b_X0_isUnder e (by omega) v1 v2 m (K := fun z => ((some (Value.int q.1), (ej_sh, q.2)) : Option Value × ej_H) = (some (Value.int z.1), (ej_sh, z.2))) hf rfl (fun _ h => h))
