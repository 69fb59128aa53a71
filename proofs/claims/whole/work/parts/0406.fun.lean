def f_X8_lawfulWays_B64 (v1 : Int32) (v2 : Int32) (v3 : Int32) (v4 : Int32) (v5 : Int32) (m : ej_M) : Option ((Int32 × Int32 × ej_M) ⊕ ((Int32 × Int32 × ej_M) ⊕ (Int32 × ej_M))) :=
  (f_X4_isLawful 16 v3 m).bind fun q1 =>
  if q1.1 = 0 then
    some (Sum.inl (v2, (v5 + 1), q1.2))
  else
    some (Sum.inl ((v2 + 1), (v5 + 1), q1.2))
set_option maxHeartbeats 4000000 in
set_option maxRecDepth 100000 in
theorem b_X8_lawfulWays_B64 (e : Nat) (hd : 4 ≤ e) (v1 : Int32) (v2 : Int32) (v3 : Int32) (v4 : Int32) (v5 : Int32) (m : ej_M) {x : ((Int32 × Int32 × ej_M) ⊕ ((Int32 × Int32 × ej_M) ⊕ (Int32 × ej_M)))} {res : Option Value × ej_H} {K : ((Int32 × Int32 × ej_M) ⊕ ((Int32 × Int32 × ej_M) ⊕ (Int32 × ej_M))) → Prop} (hf : f_X8_lawfulWays_B64 v1 v2 v3 v4 v5 m = some x) (hK : K x) (h1 : ∀ q : (Int32 × Int32 × ej_M), K (Sum.inl q) → ej_Z cX8_lawfulWays 6 (some .int) RX8 "lawfulWays" (e + 1) 25 [(0, .ref 15), (1, .int v1), (2, .int q.1), (3, .int v3), (4, .int v4), (5, .int q.2.1)] [] (ej_sh, q.2.2) res) (h2 : ∀ q : (Int32 × Int32 × ej_M), K (Sum.inr (Sum.inl q)) → ej_Z cX8_lawfulWays 6 (some .int) RX8 "lawfulWays" (e + 1) 13 [(0, .ref 15), (1, .int v1), (2, .int q.1), (3, .int v3), (4, .int q.2.1)] [] (ej_sh, q.2.2) res) (h0 : ∀ q : (Int32 × ej_M), K (Sum.inr (Sum.inr q)) → res = (some (Value.int q.1), (ej_sh, q.2))) : ej_Z cX8_lawfulWays 6 (some .int) RX8 "lawfulWays" (e + 1) 64 [(0, .ref 15), (1, .int v1), (2, .int v2), (3, .int v3), (4, .int v4), (5, .int v5)] [] (ej_sh, m) res := by
  unfold f_X8_lawfulWays_B64 at hf
  refine z_aload_n (pc := 64) (i := 0) (j := 0) dX8_lawfulWays_64 rfl rfl ?_
  refine z_ogetR (pc := 65) dX8_lawfulWays_65 lf_RX8_18 sh_15 rfl rfl rfl ?_
  refine z_aload_n (pc := 68) (i := 0) (j := 0) dX8_lawfulWays_68 rfl rfl ?_
  refine z_ogetR (pc := 69) dX8_lawfulWays_69 lf_RX8_9 sh_15 rfl rfl rfl ?_
  refine z_iload_n (pc := 72) (i := 3) (j := 3) dX8_lawfulWays_72 rfl rfl ?_
  obtain ⟨q1, hq1, hf⟩ := Option.bind_eq_some_iff.mp hf
  refine z_oVi (pc := 73) (as := [.ref 16, .int v3]) (rest := []) dX8_lawfulWays_73 lm_RX8_42 mf_X4_isLawful mi_X4_isLawful mv_X4_isLawful rc_6 rfl rfl (Nat.le_of_ble_eq_true rfl) (c_X4_isLawful e (by omega) 16 v3 m hq1) ?_
  refine z_if_eq (pc := 76) (tgt := 82) dX8_lawfulWays_76 (by decide) (fun hc => ?_) (fun hc => ?_)
  · rw [if_pos hc] at hf
    refine z_iinc (pc := 82) (j := 5) (ls' := [(5, .int (v5 + 1)), (0, .ref 15), (1, .int v1), (2, .int v2), (3, .int v3), (4, .int v4)]) dX8_lawfulWays_82 rfl ki_1 (Nat.le_of_ble_eq_true rfl) rfl ?_
    refine z_goto (pc := 85) (tgt := 25) dX8_lawfulWays_85 (by decide) ?_
    obtain rfl := Option.some.inj hf
    exact z_pick (ls' := [(0, .ref 15), (1, .int v1), (2, .int v2), (3, .int v3), (4, .int v4), (5, .int (v5 + 1))]) [1, 2, 3, 4, 5, 0] rfl (h1 (v2, (v5 + 1), q1.2) hK)
  · rw [if_neg hc] at hf
    refine z_iinc (pc := 79) (j := 2) (ls' := [(2, .int (v2 + 1)), (0, .ref 15), (1, .int v1), (3, .int v3), (4, .int v4), (5, .int v5)]) dX8_lawfulWays_79 rfl ki_1 (Nat.le_of_ble_eq_true rfl) rfl ?_
    refine z_iinc (pc := 82) (j := 5) (ls' := [(5, .int (v5 + 1)), (2, .int (v2 + 1)), (0, .ref 15), (1, .int v1), (3, .int v3), (4, .int v4)]) dX8_lawfulWays_82 rfl ki_1 (Nat.le_of_ble_eq_true rfl) rfl ?_
    refine z_goto (pc := 85) (tgt := 25) dX8_lawfulWays_85 (by decide) ?_
    obtain rfl := Option.some.inj hf
    exact z_pick (ls' := [(0, .ref 15), (1, .int v1), (2, .int (v2 + 1)), (3, .int v3), (4, .int v4), (5, .int (v5 + 1))]) [2, 3, 1, 4, 5, 0] rfl (h1 ((v2 + 1), (v5 + 1), q1.2) hK)
def f_X8_lawfulWays_L25b (v1 : Int32) (v3 : Int32) (v4 : Int32) (v2 : Int32) (v5 : Int32) (m : ej_M) : Option ((Int32 × Int32 × ej_M) ⊕ ((Int32 × Int32 × ej_M) ⊕ (Int32 × ej_M))) :=
  if v3 ≤ v5 then
    some (Sum.inr (Sum.inl (v2, (v4 + 1), m)))
  else
    (f_X8_beginAnew m).bind fun q1 =>
    if v1 = 0 then
      (f_X10_exchange 16 v4 v5 q1.2).bind fun q2 =>
      f_X8_lawfulWays_B64 v1 v2 v3 v4 v5 q2.2
    else
      (f_X10_reverse 16 v4 v5 q1.2).bind fun q3 =>
      f_X8_lawfulWays_B64 v1 v2 v3 v4 v5 q3.2
set_option maxHeartbeats 4000000 in
set_option maxRecDepth 100000 in
theorem b_X8_lawfulWays_L25b (e : Nat) (hd : 4 ≤ e) (v1 : Int32) (v3 : Int32) (v4 : Int32) (v2 : Int32) (v5 : Int32) (m : ej_M) {x : ((Int32 × Int32 × ej_M) ⊕ ((Int32 × Int32 × ej_M) ⊕ (Int32 × ej_M)))} {res : Option Value × ej_H} {K : ((Int32 × Int32 × ej_M) ⊕ ((Int32 × Int32 × ej_M) ⊕ (Int32 × ej_M))) → Prop} (hf : f_X8_lawfulWays_L25b v1 v3 v4 v2 v5 m = some x) (hK : K x) (h1 : ∀ q : (Int32 × Int32 × ej_M), K (Sum.inl q) → ej_Z cX8_lawfulWays 6 (some .int) RX8 "lawfulWays" (e + 1) 25 [(0, .ref 15), (1, .int v1), (2, .int q.1), (3, .int v3), (4, .int v4), (5, .int q.2.1)] [] (ej_sh, q.2.2) res) (h2 : ∀ q : (Int32 × Int32 × ej_M), K (Sum.inr (Sum.inl q)) → ej_Z cX8_lawfulWays 6 (some .int) RX8 "lawfulWays" (e + 1) 13 [(0, .ref 15), (1, .int v1), (2, .int q.1), (3, .int v3), (4, .int q.2.1)] [] (ej_sh, q.2.2) res) (h0 : ∀ q : (Int32 × ej_M), K (Sum.inr (Sum.inr q)) → res = (some (Value.int q.1), (ej_sh, q.2))) : ej_Z cX8_lawfulWays 6 (some .int) RX8 "lawfulWays" (e + 1) 25 [(0, .ref 15), (1, .int v1), (2, .int v2), (3, .int v3), (4, .int v4), (5, .int v5)] [] (ej_sh, m) res := by
  unfold f_X8_lawfulWays_L25b at hf
  refine z_iload (pc := 25) (i := 5) (j := 5) dX8_lawfulWays_25 rfl ?_
  refine z_iload_n (pc := 27) (i := 3) (j := 3) dX8_lawfulWays_27 rfl rfl ?_
  refine z_icmp_ge (pc := 28) (tgt := 88) dX8_lawfulWays_28 (by decide) (fun hc => ?_) (fun hc => ?_)
  · rw [if_pos hc] at hf
    refine z_iinc (pc := 88) (j := 4) (ls' := [(4, .int (v4 + 1)), (0, .ref 15), (1, .int v1), (2, .int v2), (3, .int v3), (5, .int v5)]) dX8_lawfulWays_88 rfl ki_1 (Nat.le_of_ble_eq_true rfl) rfl ?_
    refine z_goto (pc := 91) (tgt := 13) dX8_lawfulWays_91 (by decide) ?_
    obtain rfl := Option.some.inj hf
    exact z_pick (ls' := [(0, .ref 15), (1, .int v1), (2, .int v2), (3, .int v3), (4, .int (v4 + 1))]) [1, 2, 3, 4, 0] rfl (h2 (v2, (v4 + 1), m) hK)
  · rw [if_neg hc] at hf
    refine z_aload_n (pc := 31) (i := 0) (j := 0) dX8_lawfulWays_31 rfl rfl ?_
    obtain ⟨q1, hq1, hf⟩ := Option.bind_eq_some_iff.mp hf
    refine z_oVv (pc := 32) (as := []) (rest := []) dX8_lawfulWays_32 lm_RX8_35 mf_X8_beginAnew mi_X8_beginAnew mv_X8_beginAnew rc_15 rfl rfl (Nat.le_of_ble_eq_true rfl) (c_X8_beginAnew e (by omega) m hq1) ?_
    refine z_iload_n (pc := 35) (i := 1) (j := 1) dX8_lawfulWays_35 rfl rfl ?_
    refine z_if_eq (pc := 36) (tgt := 53) dX8_lawfulWays_36 (by decide) (fun hc => ?_) (fun hc => ?_)
    · rw [if_pos hc] at hf
      refine z_aload_n (pc := 53) (i := 0) (j := 0) dX8_lawfulWays_53 rfl rfl ?_
      refine z_ogetR (pc := 54) dX8_lawfulWays_54 lf_RX8_9 sh_15 rfl rfl rfl ?_
      refine z_iload (pc := 57) (i := 4) (j := 4) dX8_lawfulWays_57 rfl ?_
      refine z_iload (pc := 59) (i := 5) (j := 5) dX8_lawfulWays_59 rfl ?_
      obtain ⟨q2, hq2, hf⟩ := Option.bind_eq_some_iff.mp hf
      refine z_oSv (pc := 61) (as := [.ref 16, .int v4, .int v5]) (rest := []) dX8_lawfulWays_61 lm_RX8_53 mf_X10_exchange ms_X10_exchange rfl rfl (Nat.le_of_ble_eq_true rfl) (c_X10_exchange e (by omega) 16 v4 v5 q1.2 hq2) ?_
      exact z_pick [0, 1, 2, 3, 4, 5] rfl (b_X8_lawfulWays_B64 e hd v1 v2 v3 v4 v5 q2.2 (K := K) hf hK h1 h2 h0)
    · rw [if_neg hc] at hf
      refine z_aload_n (pc := 39) (i := 0) (j := 0) dX8_lawfulWays_39 rfl rfl ?_
      refine z_ogetR (pc := 40) dX8_lawfulWays_40 lf_RX8_9 sh_15 rfl rfl rfl ?_
      refine z_iload (pc := 43) (i := 4) (j := 4) dX8_lawfulWays_43 rfl ?_
      refine z_iload (pc := 45) (i := 5) (j := 5) dX8_lawfulWays_45 rfl ?_
      obtain ⟨q3, hq3, hf⟩ := Option.bind_eq_some_iff.mp hf
      refine z_oSv (pc := 47) (as := [.ref 16, .int v4, .int v5]) (rest := []) dX8_lawfulWays_47 lm_RX8_50 mf_X10_reverse ms_X10_reverse rfl rfl (Nat.le_of_ble_eq_true rfl) (c_X10_reverse e (by omega) 16 v4 v5 q1.2 hq3) ?_
      refine z_goto (pc := 50) (tgt := 64) dX8_lawfulWays_50 (by decide) ?_
      exact z_pick [0, 1, 2, 3, 4, 5] rfl (b_X8_lawfulWays_B64 e hd v1 v2 v3 v4 v5 q3.2 (K := K) hf hK h1 h2 h0)
def f_X8_lawfulWays_L25 (v1 : Int32) (v3 : Int32) (v4 : Int32) (v2 : Int32) (v5 : Int32) (m : ej_M) : Option ((Int32 × Int32 × ej_M) ⊕ (Int32 × ej_M)) := oj_loop (fun q : (Int32 × Int32 × ej_M) => f_X8_lawfulWays_L25b v1 v3 v4 q.1 q.2.1 q.2.2) oj_FU (v2, v5, m)
set_option maxHeartbeats 4000000 in
set_option maxRecDepth 100000 in
theorem b_X8_lawfulWays_L25 (e : Nat) (hd : 4 ≤ e) (v1 : Int32) (v3 : Int32) (v4 : Int32) (v2 : Int32) (v5 : Int32) (m : ej_M) {x : ((Int32 × Int32 × ej_M) ⊕ (Int32 × ej_M))} {res : Option Value × ej_H} {K : ((Int32 × Int32 × ej_M) ⊕ (Int32 × ej_M)) → Prop} (hf : f_X8_lawfulWays_L25 v1 v3 v4 v2 v5 m = some x) (hK : K x) (h1 : ∀ q : (Int32 × Int32 × ej_M), K (Sum.inl q) → ej_Z cX8_lawfulWays 6 (some .int) RX8 "lawfulWays" (e + 1) 13 [(0, .ref 15), (1, .int v1), (2, .int q.1), (3, .int v3), (4, .int q.2.1)] [] (ej_sh, q.2.2) res) (h0 : ∀ q : (Int32 × ej_M), K (Sum.inr q) → res = (some (Value.int q.1), (ej_sh, q.2))) : ej_Z cX8_lawfulWays 6 (some .int) RX8 "lawfulWays" (e + 1) 25 [(0, .ref 15), (1, .int v1), (2, .int v2), (3, .int v3), (4, .int v4), (5, .int v5)] [] (ej_sh, m) res :=
  oj_loop_Z (body := fun q : (Int32 × Int32 × ej_M) => f_X8_lawfulWays_L25b v1 v3 v4 q.1 q.2.1 q.2.2) (P := fun q : (Int32 × Int32 × ej_M) => ej_Z cX8_lawfulWays 6 (some .int) RX8 "lawfulWays" (e + 1) 25 [(0, .ref 15), (1, .int v1), (2, .int q.1), (3, .int v3), (4, .int v4), (5, .int q.2.1)] [] (ej_sh, q.2.2) res) (K := K) (fun s x hb hl hr => b_X8_lawfulWays_L25b e hd v1 v3 v4  s.1 s.2.1 s.2.2 (K := fun x => (∀ s' : (Int32 × Int32 × ej_M), x = Sum.inl s' → ej_Z cX8_lawfulWays 6 (some .int) RX8 "lawfulWays" (e + 1) 25 [(0, .ref 15), (1, .int v1), (2, .int s'.1), (3, .int v3), (4, .int v4), (5, .int s'.2.1)] [] (ej_sh, s'.2.2) res) ∧ ∀ e, x = Sum.inr e → K e) hb ⟨hl, hr⟩ (fun q hq => hq.1 q rfl) (fun q hq => h1 q (hq.2 _ rfl)) (fun q hq => h0 q (hq.2 _ rfl))) oj_FU (v2, v5, m) x hf hK
def f_X8_lawfulWays_L13b (v1 : Int32) (v3 : Int32) (v2 : Int32) (v4 : Int32) (m : ej_M) : Option ((Int32 × Int32 × ej_M) ⊕ (Int32 × ej_M)) :=
  if v3 ≤ v4 then
    some (Sum.inr (v2, m))
  else
    f_X8_lawfulWays_L25 v1 v3 v4 v2 (v4 + 1) m
set_option maxHeartbeats 4000000 in
set_option maxRecDepth 100000 in
theorem b_X8_lawfulWays_L13b (e : Nat) (hd : 4 ≤ e) (v1 : Int32) (v3 : Int32) (v2 : Int32) (v4 : Int32) (m : ej_M) {x : ((Int32 × Int32 × ej_M) ⊕ (Int32 × ej_M))} {res : Option Value × ej_H} {K : ((Int32 × Int32 × ej_M) ⊕ (Int32 × ej_M)) → Prop} (hf : f_X8_lawfulWays_L13b v1 v3 v2 v4 m = some x) (hK : K x) (h1 : ∀ q : (Int32 × Int32 × ej_M), K (Sum.inl q) → ej_Z cX8_lawfulWays 6 (some .int) RX8 "lawfulWays" (e + 1) 13 [(0, .ref 15), (1, .int v1), (2, .int q.1), (3, .int v3), (4, .int q.2.1)] [] (ej_sh, q.2.2) res) (h0 : ∀ q : (Int32 × ej_M), K (Sum.inr q) → res = (some (Value.int q.1), (ej_sh, q.2))) : ej_Z cX8_lawfulWays 6 (some .int) RX8 "lawfulWays" (e + 1) 13 [(0, .ref 15), (1, .int v1), (2, .int v2), (3, .int v3), (4, .int v4)] [] (ej_sh, m) res := by
  unfold f_X8_lawfulWays_L13b at hf
  refine z_iload (pc := 13) (i := 4) (j := 4) dX8_lawfulWays_13 rfl ?_
  refine z_iload_n (pc := 15) (i := 3) (j := 3) dX8_lawfulWays_15 rfl rfl ?_
  refine z_icmp_ge (pc := 16) (tgt := 94) dX8_lawfulWays_16 (by decide) (fun hc => ?_) (fun hc => ?_)
  · rw [if_pos hc] at hf
    refine z_iload_n (pc := 94) (i := 2) (j := 2) dX8_lawfulWays_94 rfl rfl ?_
    obtain rfl := Option.some.inj hf
    rw [h0 _ hK]
    exact z_iret dX8_lawfulWays_95 rfl rfl
  · rw [if_neg hc] at hf
    refine z_iload (pc := 19) (i := 4) (j := 4) dX8_lawfulWays_19 rfl ?_
    refine z_iconst (pc := 21) dX8_lawfulWays_21 ki_1 ?_
    refine z_iadd (pc := 22) dX8_lawfulWays_22 ?_
    refine z_istore (pc := 23) (i := 5) (ls' := [(5, .int (v4 + 1)), (0, .ref 15), (1, .int v1), (2, .int v2), (3, .int v3), (4, .int v4)]) dX8_lawfulWays_23 (Nat.le_of_ble_eq_true rfl) rfl ?_
    exact z_pick [1, 2, 3, 4, 5, 0] rfl (b_X8_lawfulWays_L25 e hd v1 v3 v4 v2 (v4 + 1) m (K := K) hf hK h1 h0)
def f_X8_lawfulWays_L13 (v1 : Int32) (v3 : Int32) (v2 : Int32) (v4 : Int32) (m : ej_M) : Option (Int32 × ej_M) := oj_loop (fun q : (Int32 × Int32 × ej_M) => f_X8_lawfulWays_L13b v1 v3 q.1 q.2.1 q.2.2) oj_FU (v2, v4, m)
set_option maxHeartbeats 4000000 in
set_option maxRecDepth 100000 in
theorem b_X8_lawfulWays_L13 (e : Nat) (hd : 4 ≤ e) (v1 : Int32) (v3 : Int32) (v2 : Int32) (v4 : Int32) (m : ej_M) {x : (Int32 × ej_M)} {res : Option Value × ej_H} {K : (Int32 × ej_M) → Prop} (hf : f_X8_lawfulWays_L13 v1 v3 v2 v4 m = some x) (hK : K x) (h0 : ∀ q : (Int32 × ej_M), K q → res = (some (Value.int q.1), (ej_sh, q.2))) : ej_Z cX8_lawfulWays 6 (some .int) RX8 "lawfulWays" (e + 1) 13 [(0, .ref 15), (1, .int v1), (2, .int v2), (3, .int v3), (4, .int v4)] [] (ej_sh, m) res :=
  oj_loop_Z (body := fun q : (Int32 × Int32 × ej_M) => f_X8_lawfulWays_L13b v1 v3 q.1 q.2.1 q.2.2) (P := fun q : (Int32 × Int32 × ej_M) => ej_Z cX8_lawfulWays 6 (some .int) RX8 "lawfulWays" (e + 1) 13 [(0, .ref 15), (1, .int v1), (2, .int q.1), (3, .int v3), (4, .int q.2.1)] [] (ej_sh, q.2.2) res) (K := K) (fun s x hb hl hr => b_X8_lawfulWays_L13b e hd v1 v3  s.1 s.2.1 s.2.2 (K := fun x => (∀ s' : (Int32 × Int32 × ej_M), x = Sum.inl s' → ej_Z cX8_lawfulWays 6 (some .int) RX8 "lawfulWays" (e + 1) 13 [(0, .ref 15), (1, .int v1), (2, .int s'.1), (3, .int v3), (4, .int s'.2.1)] [] (ej_sh, s'.2.2) res) ∧ ∀ e, x = Sum.inr e → K e) hb ⟨hl, hr⟩ (fun q hq => hq.1 q rfl) (fun q hq => h0 q (hq.2 _ rfl))) oj_FU (v2, v4, m) x hf hK
def f_X8_lawfulWays (v1 : Int32) (m : ej_M) : Option (Int32 × ej_M) :=
  f_X8_lawfulWays_L13 v1 (m.1 6 4) 0 0 m
set_option maxHeartbeats 4000000 in
set_option maxRecDepth 100000 in
theorem b_X8_lawfulWays (e : Nat) (hd : 4 ≤ e) (v1 : Int32) (m : ej_M) {x : (Int32 × ej_M)} {res : Option Value × ej_H} {K : (Int32 × ej_M) → Prop} (hf : f_X8_lawfulWays v1 m = some x) (hK : K x) (h0 : ∀ q : (Int32 × ej_M), K q → res = (some (Value.int q.1), (ej_sh, q.2))) : ej_Z cX8_lawfulWays 6 (some .int) RX8 "lawfulWays" (e + 1) 0 [(0, .ref 15), (1, .int v1)] [] (ej_sh, m) res := by
  unfold f_X8_lawfulWays at hf
  refine z_iconst (pc := 0) dX8_lawfulWays_0 ki_0 ?_
  refine z_istore_n (pc := 1) (i := 2) (ls' := [(2, .int 0), (0, .ref 15), (1, .int v1)]) dX8_lawfulWays_1 rfl (Nat.le_of_ble_eq_true rfl) rfl ?_
  refine z_aload_n (pc := 2) (i := 0) (j := 1) dX8_lawfulWays_2 rfl rfl ?_
  refine z_ogetR (pc := 3) dX8_lawfulWays_3 lf_RX8_18 sh_15 rfl rfl rfl ?_
  refine z_ogetI (pc := 6) dX8_lawfulWays_6 lf_RX8_27 sh_6 rfl rfl ?_
  refine z_istore_n (pc := 9) (i := 3) (ls' := [(3, .int (m.1 6 4)), (2, .int 0), (0, .ref 15), (1, .int v1)]) dX8_lawfulWays_9 rfl (Nat.le_of_ble_eq_true rfl) rfl ?_
  refine z_iconst (pc := 10) dX8_lawfulWays_10 ki_0 ?_
  refine z_istore (pc := 11) (i := 4) (ls' := [(4, .int 0), (3, .int (m.1 6 4)), (2, .int 0), (0, .ref 15), (1, .int v1)]) dX8_lawfulWays_11 (Nat.le_of_ble_eq_true rfl) rfl ?_
  exact z_pick [3, 4, 2, 1, 0] rfl (b_X8_lawfulWays_L13 e hd v1 (m.1 6 4) 0 0 m (K := K) hf hK  h0)
set_option maxHeartbeats 4000000 in
set_option maxRecDepth 100000 in
theorem c_X8_lawfulWays (d : Nat) (hd : 5 ≤ d) (v1 : Int32) (m : ej_M) {q : (Int32 × ej_M)} (hf : f_X8_lawfulWays v1 m = some q) : ej_Ct yX8_lawfulWays cX8_lawfulWays 6 (some .int) d [.ref 15, .int v1] (ej_sh, m) ((some (Value.int q.1), (ej_sh, q.2)) : Option Value × ej_H) := by
  obtain ⟨e, rfl⟩ : ∃ e, d = e + 1 := ⟨d - 1, by omega⟩
  exact z_met (by decide +kernel) (Nat.le_of_ble_eq_true rfl) (b_X8_lawfulWays e (by omega) v1 m (K := fun z => ((some (Value.int q.1), (ej_sh, q.2)) : Option Value × ej_H) = (some (Value.int z.1), (ej_sh, z.2))) hf rfl (fun _ h => h))
def f_X10_ways_B23 (s0 : Int32) (m : ej_M) : Option (Int32 × ej_M) :=
  (f_X8_lawfulWays s0 m).bind fun q1 =>
  some (q1.1, q1.2)
set_option maxHeartbeats 4000000 in
set_option maxRecDepth 100000 in
theorem b_X10_ways_B23 (e : Nat) (hd : 5 ≤ e) (s0 : Int32) (m : ej_M) {x : (Int32 × ej_M)} {res : Option Value × ej_H} {K : (Int32 × ej_M) → Prop} (hf : f_X10_ways_B23 s0 m = some x) (hK : K x) (h0 : ∀ q : (Int32 × ej_M), K q → res = (some (Value.int q.1), (ej_sh, q.2))) : ej_Z cX10_ways 2 (some .int) RX10 "ways" (e + 1) 23 [] [.int s0, .ref 15] (ej_sh, m) res := by
  unfold f_X10_ways_B23 at hf
  obtain ⟨q1, hq1, hf⟩ := Option.bind_eq_some_iff.mp hf
  refine z_oVi (pc := 23) (as := [.int s0]) (rest := []) dX10_ways_23 lm_RX10_179 mf_X8_lawfulWays mi_X8_lawfulWays mv_X8_lawfulWays rc_15 rfl rfl (Nat.le_of_ble_eq_true rfl) (c_X8_lawfulWays e (by omega) s0 m hq1) ?_
  refine z_goto (pc := 26) (tgt := 30) dX10_ways_26 (by decide) ?_
  obtain rfl := Option.some.inj hf
  rw [h0 _ hK]
  exact z_iret dX10_ways_30 rfl rfl
def f_X10_ways_B9 (v1 : Int32) (m : ej_M) : Option (Int32 × ej_M) :=
  if v1 = 1 then
    f_X10_ways_B23 1 m
  else
    f_X10_ways_B23 0 m
set_option maxHeartbeats 4000000 in
set_option maxRecDepth 100000 in
theorem b_X10_ways_B9 (e : Nat) (hd : 5 ≤ e) (v1 : Int32) (m : ej_M) {x : (Int32 × ej_M)} {res : Option Value × ej_H} {K : (Int32 × ej_M) → Prop} (hf : f_X10_ways_B9 v1 m = some x) (hK : K x) (h0 : ∀ q : (Int32 × ej_M), K q → res = (some (Value.int q.1), (ej_sh, q.2))) : ej_Z cX10_ways 2 (some .int) RX10 "ways" (e + 1) 9 [(0, .ref 0), (1, .int v1)] [] (ej_sh, m) res := by
  unfold f_X10_ways_B9 at hf
  refine z_aload_n (pc := 9) (i := 0) (j := 0) dX10_ways_9 rfl rfl ?_
  refine z_ogetR (pc := 10) dX10_ways_10 lf_RX10_37 sh_0 rfl rfl rfl ?_
  refine z_iload_n (pc := 13) (i := 1) (j := 1) dX10_ways_13 rfl rfl ?_
  refine z_iconst (pc := 14) dX10_ways_14 ki_1 ?_
  refine z_icmp_ne (pc := 15) (tgt := 22) dX10_ways_15 (by decide) (fun hc => ?_) (fun hc => ?_)
  · rw [if_neg hc] at hf
    refine z_iconst (pc := 22) dX10_ways_22 ki_0 ?_
    exact z_pick [] rfl (b_X10_ways_B23 e hd 0 m (K := K) hf hK  h0)
  · rw [if_pos hc] at hf
    refine z_iconst (pc := 18) dX10_ways_18 ki_1 ?_
    refine z_goto (pc := 19) (tgt := 23) dX10_ways_19 (by decide) ?_
    exact z_pick [] rfl (b_X10_ways_B23 e hd 1 m (K := K) hf hK  h0)
def f_X10_ways (v1 : Int32) (m : ej_M) : Option (Int32 × ej_M) :=
  if v1 = 0 then
    f_X10_ways_B9 v1 m
  else
    if v1 = 1 then
      f_X10_ways_B9 v1 m
    else
      some ((-1), m)
set_option maxHeartbeats 4000000 in
set_option maxRecDepth 100000 in
theorem b_X10_ways (e : Nat) (hd : 5 ≤ e) (v1 : Int32) (m : ej_M) {x : (Int32 × ej_M)} {res : Option Value × ej_H} {K : (Int32 × ej_M) → Prop} (hf : f_X10_ways v1 m = some x) (hK : K x) (h0 : ∀ q : (Int32 × ej_M), K q → res = (some (Value.int q.1), (ej_sh, q.2))) : ej_Z cX10_ways 2 (some .int) RX10 "ways" (e + 1) 0 [(0, .ref 0), (1, .int v1)] [] (ej_sh, m) res := by
  unfold f_X10_ways at hf
  refine z_iload_n (pc := 0) (i := 1) (j := 1) dX10_ways_0 rfl rfl ?_
  refine z_if_eq (pc := 1) (tgt := 9) dX10_ways_1 (by decide) (fun hc => ?_) (fun hc => ?_)
  · rw [if_pos hc] at hf
    exact z_pick [0, 1] rfl (b_X10_ways_B9 e hd v1 m (K := K) hf hK  h0)
  · rw [if_neg hc] at hf
    refine z_iload_n (pc := 4) (i := 1) (j := 1) dX10_ways_4 rfl rfl ?_
    refine z_iconst (pc := 5) dX10_ways_5 ki_1 ?_
    refine z_icmp_ne (pc := 6) (tgt := 29) dX10_ways_6 (by decide) (fun hc => ?_) (fun hc => ?_)
    · rw [if_neg hc] at hf
      refine z_iconst (pc := 29) dX10_ways_29 ki_n1 ?_
      obtain rfl := Option.some.inj hf
      rw [h0 _ hK]
      exact z_iret dX10_ways_30 rfl rfl
    · rw [if_pos hc] at hf
      exact z_pick [0, 1] rfl (b_X10_ways_B9 e hd v1 m (K := K) hf hK  h0)
set_option maxHeartbeats 4000000 in
set_option maxRecDepth 100000 in
theorem c_X10_ways (d : Nat) (hd : 6 ≤ d) (v1 : Int32) (m : ej_M) {q : (Int32 × ej_M)} (hf : f_X10_ways v1 m = some q) : ej_Ct yX10_ways cX10_ways 2 (some .int) d [.ref 0, .int v1] (ej_sh, m) ((some (Value.int q.1), (ej_sh, q.2)) : Option Value × ej_H) := by
  obtain ⟨e, rfl⟩ : ∃ e, d = e + 1 := ⟨d - 1, by omega⟩
  exact z_met (by decide +kernel) (Nat.le_of_ble_eq_true rfl) (b_X10_ways e (by omega) v1 m (K := fun z => ((some (Value.int q.1), (ej_sh, q.2)) : Option Value × ej_H) = (some (Value.int z.1), (ej_sh, z.2))) hf rfl (fun _ h => h))
def f_X11_ways_B62 (v1 : Int32) (v2 : Int32) (v3 : Int32) (v4 : Int32) (m : ej_M) : Option ((Int32 × Int32 × ej_M) ⊕ ((Int32 × Int32 × ej_M) ⊕ (Int32 × ej_M))) :=
  (f_X11_isLawful m).bind fun q1 =>
  if q1.1 = 0 then
    some (Sum.inl (v2, (v4 + 1), q1.2))
  else
    some (Sum.inl ((v2 + 1), (v4 + 1), q1.2))
set_option maxHeartbeats 4000000 in
set_option maxRecDepth 100000 in
theorem b_X11_ways_B62 (e : Nat) (hd : 4 ≤ e) (v1 : Int32) (v2 : Int32) (v3 : Int32) (v4 : Int32) (m : ej_M) {x : ((Int32 × Int32 × ej_M) ⊕ ((Int32 × Int32 × ej_M) ⊕ (Int32 × ej_M)))} {res : Option Value × ej_H} {K : ((Int32 × Int32 × ej_M) ⊕ ((Int32 × Int32 × ej_M) ⊕ (Int32 × ej_M))) → Prop} (hf : f_X11_ways_B62 v1 v2 v3 v4 m = some x) (hK : K x) (h1 : ∀ q : (Int32 × Int32 × ej_M), K (Sum.inl q) → ej_Z cX11_ways 5 (some .int) RX11 "ways" (e + 1) 28 [(0, .ref 41), (1, .int v1), (2, .int q.1), (3, .int v3), (4, .int q.2.1)] [] (ej_sh, q.2.2) res) (h2 : ∀ q : (Int32 × Int32 × ej_M), K (Sum.inr (Sum.inl q)) → ej_Z cX11_ways 5 (some .int) RX11 "ways" (e + 1) 15 [(0, .ref 41), (1, .int v1), (2, .int q.1), (3, .int q.2.1)] [] (ej_sh, q.2.2) res) (h0 : ∀ q : (Int32 × ej_M), K (Sum.inr (Sum.inr q)) → res = (some (Value.int q.1), (ej_sh, q.2))) : ej_Z cX11_ways 5 (some .int) RX11 "ways" (e + 1) 62 [(0, .ref 41), (1, .int v1), (2, .int v2), (3, .int v3), (4, .int v4)] [] (ej_sh, m) res := by
  unfold f_X11_ways_B62 at hf
  refine z_aload_n (pc := 62) (i := 0) (j := 0) dX11_ways_62 rfl rfl ?_
  obtain ⟨q1, hq1, hf⟩ := Option.bind_eq_some_iff.mp hf
  refine z_oVi (pc := 63) (as := []) (rest := []) dX11_ways_63 lm_RX11_230 mf_X11_isLawful mi_X11_isLawful mv_X11_isLawful rc_41 rfl rfl (Nat.le_of_ble_eq_true rfl) (c_X11_isLawful e (by omega) m hq1) ?_
  refine z_if_eq (pc := 66) (tgt := 72) dX11_ways_66 (by decide) (fun hc => ?_) (fun hc => ?_)
  · rw [if_pos hc] at hf
    refine z_iinc (pc := 72) (j := 4) (ls' := [(4, .int (v4 + 1)), (0, .ref 41), (1, .int v1), (2, .int v2), (3, .int v3)]) dX11_ways_72 rfl ki_1 (Nat.le_of_ble_eq_true rfl) rfl ?_
    refine z_goto (pc := 75) (tgt := 28) dX11_ways_75 (by decide) ?_
    obtain rfl := Option.some.inj hf
    exact z_pick (ls' := [(0, .ref 41), (1, .int v1), (2, .int v2), (3, .int v3), (4, .int (v4 + 1))]) [1, 2, 3, 4, 0] rfl (h1 (v2, (v4 + 1), q1.2) hK)
  · rw [if_neg hc] at hf
    refine z_iinc (pc := 69) (j := 2) (ls' := [(2, .int (v2 + 1)), (0, .ref 41), (1, .int v1), (3, .int v3), (4, .int v4)]) dX11_ways_69 rfl ki_1 (Nat.le_of_ble_eq_true rfl) rfl ?_
    refine z_iinc (pc := 72) (j := 4) (ls' := [(4, .int (v4 + 1)), (2, .int (v2 + 1)), (0, .ref 41), (1, .int v1), (3, .int v3)]) dX11_ways_72 rfl ki_1 (Nat.le_of_ble_eq_true rfl) rfl ?_
    refine z_goto (pc := 75) (tgt := 28) dX11_ways_75 (by decide) ?_
    obtain rfl := Option.some.inj hf
    exact z_pick (ls' := [(0, .ref 41), (1, .int v1), (2, .int (v2 + 1)), (3, .int v3), (4, .int (v4 + 1))]) [2, 3, 1, 4, 0] rfl (h1 ((v2 + 1), (v4 + 1), q1.2) hK)
def f_X11_ways_L28b (v1 : Int32) (v3 : Int32) (v2 : Int32) (v4 : Int32) (m : ej_M) : Option ((Int32 × Int32 × ej_M) ⊕ ((Int32 × Int32 × ej_M) ⊕ (Int32 × ej_M))) :=
  if (m.1 41 4) ≤ v4 then
    some (Sum.inr (Sum.inl (v2, (v3 + 1), m)))
  else
    (f_X11_see m).bind fun q1 =>
    if v1 = 0 then
      (f_X11_swapRow v3 v4 q1.2).bind fun q3 =>
      f_X11_ways_B62 v1 v2 v3 v4 q3.2
    else
      (f_X11_turnRow v3 v4 q1.2).bind fun q2 =>
      f_X11_ways_B62 v1 v2 v3 v4 q2.2
set_option maxHeartbeats 4000000 in
set_option maxRecDepth 100000 in
theorem b_X11_ways_L28b (e : Nat) (hd : 4 ≤ e) (v1 : Int32) (v3 : Int32) (v2 : Int32) (v4 : Int32) (m : ej_M) {x : ((Int32 × Int32 × ej_M) ⊕ ((Int32 × Int32 × ej_M) ⊕ (Int32 × ej_M)))} {res : Option Value × ej_H} {K : ((Int32 × Int32 × ej_M) ⊕ ((Int32 × Int32 × ej_M) ⊕ (Int32 × ej_M))) → Prop} (hf : f_X11_ways_L28b v1 v3 v2 v4 m = some x) (hK : K x) (h1 : ∀ q : (Int32 × Int32 × ej_M), K (Sum.inl q) → ej_Z cX11_ways 5 (some .int) RX11 "ways" (e + 1) 28 [(0, .ref 41), (1, .int v1), (2, .int q.1), (3, .int v3), (4, .int q.2.1)] [] (ej_sh, q.2.2) res) (h2 : ∀ q : (Int32 × Int32 × ej_M), K (Sum.inr (Sum.inl q)) → ej_Z cX11_ways 5 (some .int) RX11 "ways" (e + 1) 15 [(0, .ref 41), (1, .int v1), (2, .int q.1), (3, .int q.2.1)] [] (ej_sh, q.2.2) res) (h0 : ∀ q : (Int32 × ej_M), K (Sum.inr (Sum.inr q)) → res = (some (Value.int q.1), (ej_sh, q.2))) : ej_Z cX11_ways 5 (some .int) RX11 "ways" (e + 1) 28 [(0, .ref 41), (1, .int v1), (2, .int v2), (3, .int v3), (4, .int v4)] [] (ej_sh, m) res := by
  unfold f_X11_ways_L28b at hf
  refine z_iload (pc := 28) (i := 4) (j := 4) dX11_ways_28 rfl ?_
  refine z_aload_n (pc := 30) (i := 0) (j := 0) dX11_ways_30 rfl rfl ?_
  refine z_ogetI (pc := 31) dX11_ways_31 lf_RX11_108 sh_41 rfl rfl ?_
  refine z_icmp_ge (pc := 34) (tgt := 78) dX11_ways_34 (by decide) (fun hc => ?_) (fun hc => ?_)
  · rw [if_pos hc] at hf
    refine z_iinc (pc := 78) (j := 3) (ls' := [(3, .int (v3 + 1)), (0, .ref 41), (1, .int v1), (2, .int v2), (4, .int v4)]) dX11_ways_78 rfl ki_1 (Nat.le_of_ble_eq_true rfl) rfl ?_
    refine z_goto (pc := 81) (tgt := 15) dX11_ways_81 (by decide) ?_
    obtain rfl := Option.some.inj hf
    exact z_pick (ls' := [(0, .ref 41), (1, .int v1), (2, .int v2), (3, .int (v3 + 1))]) [1, 2, 3, 0] rfl (h2 (v2, (v3 + 1), m) hK)
  · rw [if_neg hc] at hf
    refine z_aload_n (pc := 37) (i := 0) (j := 0) dX11_ways_37 rfl rfl ?_
    obtain ⟨q1, hq1, hf⟩ := Option.bind_eq_some_iff.mp hf
    refine z_oVv (pc := 38) (as := []) (rest := []) dX11_ways_38 lm_RX11_227 mf_X11_see mi_X11_see mv_X11_see rc_41 rfl rfl (Nat.le_of_ble_eq_true rfl) (c_X11_see e (by omega) m hq1) ?_
    refine z_iload_n (pc := 41) (i := 1) (j := 1) dX11_ways_41 rfl rfl ?_
    refine z_if_ne (pc := 42) (tgt := 55) dX11_ways_42 (by decide) (fun hc => ?_) (fun hc => ?_)
    · rw [if_neg hc] at hf
      refine z_aload_n (pc := 55) (i := 0) (j := 0) dX11_ways_55 rfl rfl ?_
      refine z_iload_n (pc := 56) (i := 3) (j := 3) dX11_ways_56 rfl rfl ?_
      refine z_iload (pc := 57) (i := 4) (j := 4) dX11_ways_57 rfl ?_
      obtain ⟨q2, hq2, hf⟩ := Option.bind_eq_some_iff.mp hf
      refine z_oVv (pc := 59) (as := [.int v3, .int v4]) (rest := []) dX11_ways_59 lm_RX11_251 mf_X11_turnRow mi_X11_turnRow mv_X11_turnRow rc_41 rfl rfl (Nat.le_of_ble_eq_true rfl) (c_X11_turnRow e (by omega) v3 v4 q1.2 hq2) ?_
      exact z_pick [0, 1, 2, 3, 4] rfl (b_X11_ways_B62 e hd v1 v2 v3 v4 q2.2 (K := K) hf hK h1 h2 h0)
    · rw [if_pos hc] at hf
      refine z_aload_n (pc := 45) (i := 0) (j := 0) dX11_ways_45 rfl rfl ?_
      refine z_iload_n (pc := 46) (i := 3) (j := 3) dX11_ways_46 rfl rfl ?_
      refine z_iload (pc := 47) (i := 4) (j := 4) dX11_ways_47 rfl ?_
      obtain ⟨q3, hq3, hf⟩ := Option.bind_eq_some_iff.mp hf
      refine z_oVv (pc := 49) (as := [.int v3, .int v4]) (rest := []) dX11_ways_49 lm_RX11_224 mf_X11_swapRow mi_X11_swapRow mv_X11_swapRow rc_41 rfl rfl (Nat.le_of_ble_eq_true rfl) (c_X11_swapRow e (by omega) v3 v4 q1.2 hq3) ?_
      refine z_goto (pc := 52) (tgt := 62) dX11_ways_52 (by decide) ?_
      exact z_pick [0, 1, 2, 3, 4] rfl (b_X11_ways_B62 e hd v1 v2 v3 v4 q3.2 (K := K) hf hK h1 h2 h0)
def f_X11_ways_L28 (v1 : Int32) (v3 : Int32) (v2 : Int32) (v4 : Int32) (m : ej_M) : Option ((Int32 × Int32 × ej_M) ⊕ (Int32 × ej_M)) := oj_loop (fun q : (Int32 × Int32 × ej_M) => f_X11_ways_L28b v1 v3 q.1 q.2.1 q.2.2) oj_FU (v2, v4, m)
set_option maxHeartbeats 4000000 in
set_option maxRecDepth 100000 in
theorem b_X11_ways_L28 (e : Nat) (hd : 4 ≤ e) (v1 : Int32) (v3 : Int32) (v2 : Int32) (v4 : Int32) (m : ej_M) {x : ((Int32 × Int32 × ej_M) ⊕ (Int32 × ej_M))} {res : Option Value × ej_H} {K : ((Int32 × Int32 × ej_M) ⊕ (Int32 × ej_M)) → Prop} (hf : f_X11_ways_L28 v1 v3 v2 v4 m = some x) (hK : K x) (h1 : ∀ q : (Int32 × Int32 × ej_M), K (Sum.inl q) → ej_Z cX11_ways 5 (some .int) RX11 "ways" (e + 1) 15 [(0, .ref 41), (1, .int v1), (2, .int q.1), (3, .int q.2.1)] [] (ej_sh, q.2.2) res) (h0 : ∀ q : (Int32 × ej_M), K (Sum.inr q) → res = (some (Value.int q.1), (ej_sh, q.2))) : ej_Z cX11_ways 5 (some .int) RX11 "ways" (e + 1) 28 [(0, .ref 41), (1, .int v1), (2, .int v2), (3, .int v3), (4, .int v4)] [] (ej_sh, m) res :=
  oj_loop_Z (body := fun q : (Int32 × Int32 × ej_M) => f_X11_ways_L28b v1 v3 q.1 q.2.1 q.2.2) (P := fun q : (Int32 × Int32 × ej_M) => ej_Z cX11_ways 5 (some .int) RX11 "ways" (e + 1) 28 [(0, .ref 41), (1, .int v1), (2, .int q.1), (3, .int v3), (4, .int q.2.1)] [] (ej_sh, q.2.2) res) (K := K) (fun s x hb hl hr => b_X11_ways_L28b e hd v1 v3  s.1 s.2.1 s.2.2 (K := fun x => (∀ s' : (Int32 × Int32 × ej_M), x = Sum.inl s' → ej_Z cX11_ways 5 (some .int) RX11 "ways" (e + 1) 28 [(0, .ref 41), (1, .int v1), (2, .int s'.1), (3, .int v3), (4, .int s'.2.1)] [] (ej_sh, s'.2.2) res) ∧ ∀ e, x = Sum.inr e → K e) hb ⟨hl, hr⟩ (fun q hq => hq.1 q rfl) (fun q hq => h1 q (hq.2 _ rfl)) (fun q hq => h0 q (hq.2 _ rfl))) oj_FU (v2, v4, m) x hf hK
def f_X11_ways_L15b (v1 : Int32) (v2 : Int32) (v3 : Int32) (m : ej_M) : Option ((Int32 × Int32 × ej_M) ⊕ (Int32 × ej_M)) :=
  if (m.1 41 4) ≤ v3 then
    some (Sum.inr (v2, m))
  else
    f_X11_ways_L28 v1 v3 v2 (v3 + 1) m
set_option maxHeartbeats 4000000 in
set_option maxRecDepth 100000 in
theorem b_X11_ways_L15b (e : Nat) (hd : 4 ≤ e) (v1 : Int32) (v2 : Int32) (v3 : Int32) (m : ej_M) {x : ((Int32 × Int32 × ej_M) ⊕ (Int32 × ej_M))} {res : Option Value × ej_H} {K : ((Int32 × Int32 × ej_M) ⊕ (Int32 × ej_M)) → Prop} (hf : f_X11_ways_L15b v1 v2 v3 m = some x) (hK : K x) (h1 : ∀ q : (Int32 × Int32 × ej_M), K (Sum.inl q) → ej_Z cX11_ways 5 (some .int) RX11 "ways" (e + 1) 15 [(0, .ref 41), (1, .int v1), (2, .int q.1), (3, .int q.2.1)] [] (ej_sh, q.2.2) res) (h0 : ∀ q : (Int32 × ej_M), K (Sum.inr q) → res = (some (Value.int q.1), (ej_sh, q.2))) : ej_Z cX11_ways 5 (some .int) RX11 "ways" (e + 1) 15 [(0, .ref 41), (1, .int v1), (2, .int v2), (3, .int v3)] [] (ej_sh, m) res := by
  unfold f_X11_ways_L15b at hf
  refine z_iload_n (pc := 15) (i := 3) (j := 3) dX11_ways_15 rfl rfl ?_
  refine z_aload_n (pc := 16) (i := 0) (j := 0) dX11_ways_16 rfl rfl ?_
  refine z_ogetI (pc := 17) dX11_ways_17 lf_RX11_108 sh_41 rfl rfl ?_
  refine z_icmp_ge (pc := 20) (tgt := 84) dX11_ways_20 (by decide) (fun hc => ?_) (fun hc => ?_)
  · rw [if_pos hc] at hf
    refine z_iload_n (pc := 84) (i := 2) (j := 2) dX11_ways_84 rfl rfl ?_
    obtain rfl := Option.some.inj hf
    rw [h0 _ hK]
    exact z_iret dX11_ways_85 rfl rfl
  · rw [if_neg hc] at hf
    refine z_iload_n (pc := 23) (i := 3) (j := 3) dX11_ways_23 rfl rfl ?_
    refine z_iconst (pc := 24) dX11_ways_24 ki_1 ?_
    refine z_iadd (pc := 25) dX11_ways_25 ?_
    refine z_istore (pc := 26) (i := 4) (ls' := [(4, .int (v3 + 1)), (0, .ref 41), (1, .int v1), (2, .int v2), (3, .int v3)]) dX11_ways_26 (Nat.le_of_ble_eq_true rfl) rfl ?_
    exact z_pick [1, 2, 3, 4, 0] rfl (b_X11_ways_L28 e hd v1 v3 v2 (v3 + 1) m (K := K) hf hK h1 h0)
def f_X11_ways_L15 (v1 : Int32) (v2 : Int32) (v3 : Int32) (m : ej_M) : Option (Int32 × ej_M) := oj_loop (fun q : (Int32 × Int32 × ej_M) => f_X11_ways_L15b v1 q.1 q.2.1 q.2.2) oj_FU (v2, v3, m)
set_option maxHeartbeats 4000000 in
set_option maxRecDepth 100000 in
theorem b_X11_ways_L15 (e : Nat) (hd : 4 ≤ e) (v1 : Int32) (v2 : Int32) (v3 : Int32) (m : ej_M) {x : (Int32 × ej_M)} {res : Option Value × ej_H} {K : (Int32 × ej_M) → Prop} (hf : f_X11_ways_L15 v1 v2 v3 m = some x) (hK : K x) (h0 : ∀ q : (Int32 × ej_M), K q → res = (some (Value.int q.1), (ej_sh, q.2))) : ej_Z cX11_ways 5 (some .int) RX11 "ways" (e + 1) 15 [(0, .ref 41), (1, .int v1), (2, .int v2), (3, .int v3)] [] (ej_sh, m) res :=
  oj_loop_Z (body := fun q : (Int32 × Int32 × ej_M) => f_X11_ways_L15b v1 q.1 q.2.1 q.2.2) (P := fun q : (Int32 × Int32 × ej_M) => ej_Z cX11_ways 5 (some .int) RX11 "ways" (e + 1) 15 [(0, .ref 41), (1, .int v1), (2, .int q.1), (3, .int q.2.1)] [] (ej_sh, q.2.2) res) (K := K) (fun s x hb hl hr => b_X11_ways_L15b e hd v1  s.1 s.2.1 s.2.2 (K := fun x => (∀ s' : (Int32 × Int32 × ej_M), x = Sum.inl s' → ej_Z cX11_ways 5 (some .int) RX11 "ways" (e + 1) 15 [(0, .ref 41), (1, .int v1), (2, .int s'.1), (3, .int s'.2.1)] [] (ej_sh, s'.2.2) res) ∧ ∀ e, x = Sum.inr e → K e) hb ⟨hl, hr⟩ (fun q hq => hq.1 q rfl) (fun q hq => h0 q (hq.2 _ rfl))) oj_FU (v2, v3, m) x hf hK
def f_X11_ways (v1 : Int32) (m : ej_M) : Option (Int32 × ej_M) :=
  (f_X11_in v1 0 1 m).bind fun q1 =>
  if q1.1 = 0 then
    some ((-1), q1.2)
  else
    f_X11_ways_L15 v1 0 0 q1.2
set_option maxHeartbeats 4000000 in
set_option maxRecDepth 100000 in
theorem b_X11_ways (e : Nat) (hd : 4 ≤ e) (v1 : Int32) (m : ej_M) {x : (Int32 × ej_M)} {res : Option Value × ej_H} {K : (Int32 × ej_M) → Prop} (hf : f_X11_ways v1 m = some x) (hK : K x) (h0 : ∀ q : (Int32 × ej_M), K q → res = (some (Value.int q.1), (ej_sh, q.2))) : ej_Z cX11_ways 5 (some .int) RX11 "ways" (e + 1) 0 [(0, .ref 41), (1, .int v1)] [] (ej_sh, m) res := by
  unfold f_X11_ways at hf
  refine z_iload_n (pc := 0) (i := 1) (j := 1) dX11_ways_0 rfl rfl ?_
  refine z_iconst (pc := 1) dX11_ways_1 ki_0 ?_
  refine z_iconst (pc := 2) dX11_ways_2 ki_1 ?_
  obtain ⟨q1, hq1, hf⟩ := Option.bind_eq_some_iff.mp hf
  refine z_oSi (pc := 3) (as := [.int v1, .int 0, .int 1]) (rest := []) dX11_ways_3 lm_RX11_104 mf_X11_in ms_X11_in rfl rfl (Nat.le_of_ble_eq_true rfl) (c_X11_in e (by omega) v1 0 1 m hq1) ?_
  refine z_if_ne (pc := 6) (tgt := 11) dX11_ways_6 (by decide) (fun hc => ?_) (fun hc => ?_)
  · rw [if_neg hc] at hf
    refine z_iconst (pc := 11) dX11_ways_11 ki_0 ?_
    refine z_istore_n (pc := 12) (i := 2) (ls' := [(2, .int 0), (0, .ref 41), (1, .int v1)]) dX11_ways_12 rfl (Nat.le_of_ble_eq_true rfl) rfl ?_
    refine z_iconst (pc := 13) dX11_ways_13 ki_0 ?_
    refine z_istore_n (pc := 14) (i := 3) (ls' := [(3, .int 0), (2, .int 0), (0, .ref 41), (1, .int v1)]) dX11_ways_14 rfl (Nat.le_of_ble_eq_true rfl) rfl ?_
    exact z_pick [2, 3, 1, 0] rfl (b_X11_ways_L15 e hd v1 0 0 q1.2 (K := K) hf hK  h0)
  · rw [if_pos hc] at hf
    refine z_iconst (pc := 9) dX11_ways_9 ki_n1 ?_
    obtain rfl := Option.some.inj hf
    rw [h0 _ hK]
    exact z_iret dX11_ways_10 rfl rfl
set_option maxHeartbeats 4000000 in
set_option maxRecDepth 100000 in
theorem c_X11_ways (d : Nat) (hd : 5 ≤ d) (v1 : Int32) (m : ej_M) {q : (Int32 × ej_M)} (hf : f_X11_ways v1 m = some q) : ej_Ct yX11_ways cX11_ways 5 (some .int) d [.ref 41, .int v1] (ej_sh, m) ((some (Value.int q.1), (ej_sh, q.2)) : Option Value × ej_H) := by
  obtain ⟨e, rfl⟩ : ∃ e, d = e + 1 := ⟨d - 1, by omega⟩
  exact z_met (by decide +kernel) (Nat.le_of_ble_eq_true rfl) (b_X11_ways e (by omega) v1 m (K := fun z => ((some (Value.int q.1), (ej_sh, q.2)) : Option Value × ej_H) = (some (Value.int z.1), (ej_sh, z.2))) hf rfl (fun _ h => h))
def f_J6_bitCount_0f7a4 (v0 : Int32) (m : ej_M) : Option (Int32 × ej_M) :=
  some (((((((((v0 - (((Int32.toUInt32 v0 >>> (Int32.toUInt32 1 &&& Int32.toUInt32 31)).toInt32) &&& 1431655765)) &&& 858993459) + (((Int32.toUInt32 (v0 - (((Int32.toUInt32 v0 >>> (Int32.toUInt32 1 &&& Int32.toUInt32 31)).toInt32) &&& 1431655765)) >>> (Int32.toUInt32 2 &&& Int32.toUInt32 31)).toInt32) &&& 858993459)) + ((Int32.toUInt32 (((v0 - (((Int32.toUInt32 v0 >>> (Int32.toUInt32 1 &&& Int32.toUInt32 31)).toInt32) &&& 1431655765)) &&& 858993459) + (((Int32.toUInt32 (v0 - (((Int32.toUInt32 v0 >>> (Int32.toUInt32 1 &&& Int32.toUInt32 31)).toInt32) &&& 1431655765)) >>> (Int32.toUInt32 2 &&& Int32.toUInt32 31)).toInt32) &&& 858993459)) >>> (Int32.toUInt32 4 &&& Int32.toUInt32 31)).toInt32)) &&& 252645135) + ((Int32.toUInt32 (((((v0 - (((Int32.toUInt32 v0 >>> (Int32.toUInt32 1 &&& Int32.toUInt32 31)).toInt32) &&& 1431655765)) &&& 858993459) + (((Int32.toUInt32 (v0 - (((Int32.toUInt32 v0 >>> (Int32.toUInt32 1 &&& Int32.toUInt32 31)).toInt32) &&& 1431655765)) >>> (Int32.toUInt32 2 &&& Int32.toUInt32 31)).toInt32) &&& 858993459)) + ((Int32.toUInt32 (((v0 - (((Int32.toUInt32 v0 >>> (Int32.toUInt32 1 &&& Int32.toUInt32 31)).toInt32) &&& 1431655765)) &&& 858993459) + (((Int32.toUInt32 (v0 - (((Int32.toUInt32 v0 >>> (Int32.toUInt32 1 &&& Int32.toUInt32 31)).toInt32) &&& 1431655765)) >>> (Int32.toUInt32 2 &&& Int32.toUInt32 31)).toInt32) &&& 858993459)) >>> (Int32.toUInt32 4 &&& Int32.toUInt32 31)).toInt32)) &&& 252645135) >>> (Int32.toUInt32 8 &&& Int32.toUInt32 31)).toInt32)) + ((Int32.toUInt32 ((((((v0 - (((Int32.toUInt32 v0 >>> (Int32.toUInt32 1 &&& Int32.toUInt32 31)).toInt32) &&& 1431655765)) &&& 858993459) + (((Int32.toUInt32 (v0 - (((Int32.toUInt32 v0 >>> (Int32.toUInt32 1 &&& Int32.toUInt32 31)).toInt32) &&& 1431655765)) >>> (Int32.toUInt32 2 &&& Int32.toUInt32 31)).toInt32) &&& 858993459)) + ((Int32.toUInt32 (((v0 - (((Int32.toUInt32 v0 >>> (Int32.toUInt32 1 &&& Int32.toUInt32 31)).toInt32) &&& 1431655765)) &&& 858993459) + (((Int32.toUInt32 (v0 - (((Int32.toUInt32 v0 >>> (Int32.toUInt32 1 &&& Int32.toUInt32 31)).toInt32) &&& 1431655765)) >>> (Int32.toUInt32 2 &&& Int32.toUInt32 31)).toInt32) &&& 858993459)) >>> (Int32.toUInt32 4 &&& Int32.toUInt32 31)).toInt32)) &&& 252645135) + ((Int32.toUInt32 (((((v0 - (((Int32.toUInt32 v0 >>> (Int32.toUInt32 1 &&& Int32.toUInt32 31)).toInt32) &&& 1431655765)) &&& 858993459) + (((Int32.toUInt32 (v0 - (((Int32.toUInt32 v0 >>> (Int32.toUInt32 1 &&& Int32.toUInt32 31)).toInt32) &&& 1431655765)) >>> (Int32.toUInt32 2 &&& Int32.toUInt32 31)).toInt32) &&& 858993459)) + ((Int32.toUInt32 (((v0 - (((Int32.toUInt32 v0 >>> (Int32.toUInt32 1 &&& Int32.toUInt32 31)).toInt32) &&& 1431655765)) &&& 858993459) + (((Int32.toUInt32 (v0 - (((Int32.toUInt32 v0 >>> (Int32.toUInt32 1 &&& Int32.toUInt32 31)).toInt32) &&& 1431655765)) >>> (Int32.toUInt32 2 &&& Int32.toUInt32 31)).toInt32) &&& 858993459)) >>> (Int32.toUInt32 4 &&& Int32.toUInt32 31)).toInt32)) &&& 252645135) >>> (Int32.toUInt32 8 &&& Int32.toUInt32 31)).toInt32)) >>> (Int32.toUInt32 16 &&& Int32.toUInt32 31)).toInt32)) &&& 63), m)
set_option maxHeartbeats 4000000 in
set_option maxRecDepth 100000 in
theorem b_J6_bitCount_0f7a4 (d : Nat) (v0 : Int32) (m : ej_M) {x : (Int32 × ej_M)} {res : Option Value × ej_H} {K : (Int32 × ej_M) → Prop} (hf : f_J6_bitCount_0f7a4 v0 m = some x) (hK : K x) (h0 : ∀ q : (Int32 × ej_M), K q → res = (some (Value.int q.1), (ej_sh, q.2))) : ej_Z cJ6_bitCount_0f7a4 1 (some .int) RJ6 "bitCount" d 0 [(0, .int v0)] [] (ej_sh, m) res := by
  unfold f_J6_bitCount_0f7a4 at hf
  refine z_iload_n (pc := 0) (i := 0) (j := 0) dJ6_bitCount_0f7a4_0 rfl rfl ?_
  refine z_iload_n (pc := 1) (i := 0) (j := 0) dJ6_bitCount_0f7a4_1 rfl rfl ?_
  refine z_iconst (pc := 2) dJ6_bitCount_0f7a4_2 ki_1 ?_
  refine z_iushr (pc := 3) dJ6_bitCount_0f7a4_3 ?_
  refine z_ldcw (pc := 4) dJ6_bitCount_0f7a4_4 lc_RJ6_265 ?_
  refine z_iand (pc := 7) dJ6_bitCount_0f7a4_7 ?_
  refine z_isub (pc := 8) dJ6_bitCount_0f7a4_8 ?_
  refine z_istore_n (pc := 9) (i := 0) (ls' := [(0, .int (v0 - (((Int32.toUInt32 v0 >>> (Int32.toUInt32 1 &&& Int32.toUInt32 31)).toInt32) &&& 1431655765)))]) dJ6_bitCount_0f7a4_9 rfl (Nat.le_of_ble_eq_true rfl) rfl ?_
  refine z_iload_n (pc := 10) (i := 0) (j := 0) dJ6_bitCount_0f7a4_10 rfl rfl ?_
  refine z_ldcw (pc := 11) dJ6_bitCount_0f7a4_11 lc_RJ6_266 ?_
  refine z_iand (pc := 14) dJ6_bitCount_0f7a4_14 ?_
  refine z_iload_n (pc := 15) (i := 0) (j := 0) dJ6_bitCount_0f7a4_15 rfl rfl ?_
  refine z_iconst (pc := 16) dJ6_bitCount_0f7a4_16 ki_2 ?_
  refine z_iushr (pc := 17) dJ6_bitCount_0f7a4_17 ?_
  refine z_ldcw (pc := 18) dJ6_bitCount_0f7a4_18 lc_RJ6_266 ?_
  refine z_iand (pc := 21) dJ6_bitCount_0f7a4_21 ?_
  refine z_iadd (pc := 22) dJ6_bitCount_0f7a4_22 ?_
  refine z_istore_n (pc := 23) (i := 0) (ls' := [(0, .int (((v0 - (((Int32.toUInt32 v0 >>> (Int32.toUInt32 1 &&& Int32.toUInt32 31)).toInt32) &&& 1431655765)) &&& 858993459) + (((Int32.toUInt32 (v0 - (((Int32.toUInt32 v0 >>> (Int32.toUInt32 1 &&& Int32.toUInt32 31)).toInt32) &&& 1431655765)) >>> (Int32.toUInt32 2 &&& Int32.toUInt32 31)).toInt32) &&& 858993459)))]) dJ6_bitCount_0f7a4_23 rfl (Nat.le_of_ble_eq_true rfl) rfl ?_
  refine z_iload_n (pc := 24) (i := 0) (j := 0) dJ6_bitCount_0f7a4_24 rfl rfl ?_
  refine z_iload_n (pc := 25) (i := 0) (j := 0) dJ6_bitCount_0f7a4_25 rfl rfl ?_
  refine z_iconst (pc := 26) dJ6_bitCount_0f7a4_26 ki_4 ?_
  refine z_iushr (pc := 27) dJ6_bitCount_0f7a4_27 ?_
  refine z_iadd (pc := 28) dJ6_bitCount_0f7a4_28 ?_
  refine z_ldcw (pc := 29) dJ6_bitCount_0f7a4_29 lc_RJ6_267 ?_
  refine z_iand (pc := 32) dJ6_bitCount_0f7a4_32 ?_
  refine z_istore_n (pc := 33) (i := 0) (ls' := [(0, .int (((((v0 - (((Int32.toUInt32 v0 >>> (Int32.toUInt32 1 &&& Int32.toUInt32 31)).toInt32) &&& 1431655765)) &&& 858993459) + (((Int32.toUInt32 (v0 - (((Int32.toUInt32 v0 >>> (Int32.toUInt32 1 &&& Int32.toUInt32 31)).toInt32) &&& 1431655765)) >>> (Int32.toUInt32 2 &&& Int32.toUInt32 31)).toInt32) &&& 858993459)) + ((Int32.toUInt32 (((v0 - (((Int32.toUInt32 v0 >>> (Int32.toUInt32 1 &&& Int32.toUInt32 31)).toInt32) &&& 1431655765)) &&& 858993459) + (((Int32.toUInt32 (v0 - (((Int32.toUInt32 v0 >>> (Int32.toUInt32 1 &&& Int32.toUInt32 31)).toInt32) &&& 1431655765)) >>> (Int32.toUInt32 2 &&& Int32.toUInt32 31)).toInt32) &&& 858993459)) >>> (Int32.toUInt32 4 &&& Int32.toUInt32 31)).toInt32)) &&& 252645135))]) dJ6_bitCount_0f7a4_33 rfl (Nat.le_of_ble_eq_true rfl) rfl ?_
  refine z_iload_n (pc := 34) (i := 0) (j := 0) dJ6_bitCount_0f7a4_34 rfl rfl ?_
  refine z_iload_n (pc := 35) (i := 0) (j := 0) dJ6_bitCount_0f7a4_35 rfl rfl ?_
  refine z_bipush (pc := 36) dJ6_bitCount_0f7a4_36 kb_8 ?_
  refine z_iushr (pc := 38) dJ6_bitCount_0f7a4_38 ?_
  refine z_iadd (pc := 39) dJ6_bitCount_0f7a4_39 ?_
  refine z_istore_n (pc := 40) (i := 0) (ls' := [(0, .int ((((((v0 - (((Int32.toUInt32 v0 >>> (Int32.toUInt32 1 &&& Int32.toUInt32 31)).toInt32) &&& 1431655765)) &&& 858993459) + (((Int32.toUInt32 (v0 - (((Int32.toUInt32 v0 >>> (Int32.toUInt32 1 &&& Int32.toUInt32 31)).toInt32) &&& 1431655765)) >>> (Int32.toUInt32 2 &&& Int32.toUInt32 31)).toInt32) &&& 858993459)) + ((Int32.toUInt32 (((v0 - (((Int32.toUInt32 v0 >>> (Int32.toUInt32 1 &&& Int32.toUInt32 31)).toInt32) &&& 1431655765)) &&& 858993459) + (((Int32.toUInt32 (v0 - (((Int32.toUInt32 v0 >>> (Int32.toUInt32 1 &&& Int32.toUInt32 31)).toInt32) &&& 1431655765)) >>> (Int32.toUInt32 2 &&& Int32.toUInt32 31)).toInt32) &&& 858993459)) >>> (Int32.toUInt32 4 &&& Int32.toUInt32 31)).toInt32)) &&& 252645135) + ((Int32.toUInt32 (((((v0 - (((Int32.toUInt32 v0 >>> (Int32.toUInt32 1 &&& Int32.toUInt32 31)).toInt32) &&& 1431655765)) &&& 858993459) + (((Int32.toUInt32 (v0 - (((Int32.toUInt32 v0 >>> (Int32.toUInt32 1 &&& Int32.toUInt32 31)).toInt32) &&& 1431655765)) >>> (Int32.toUInt32 2 &&& Int32.toUInt32 31)).toInt32) &&& 858993459)) + ((Int32.toUInt32 (((v0 - (((Int32.toUInt32 v0 >>> (Int32.toUInt32 1 &&& Int32.toUInt32 31)).toInt32) &&& 1431655765)) &&& 858993459) + (((Int32.toUInt32 (v0 - (((Int32.toUInt32 v0 >>> (Int32.toUInt32 1 &&& Int32.toUInt32 31)).toInt32) &&& 1431655765)) >>> (Int32.toUInt32 2 &&& Int32.toUInt32 31)).toInt32) &&& 858993459)) >>> (Int32.toUInt32 4 &&& Int32.toUInt32 31)).toInt32)) &&& 252645135) >>> (Int32.toUInt32 8 &&& Int32.toUInt32 31)).toInt32)))]) dJ6_bitCount_0f7a4_40 rfl (Nat.le_of_ble_eq_true rfl) rfl ?_
  refine z_iload_n (pc := 41) (i := 0) (j := 0) dJ6_bitCount_0f7a4_41 rfl rfl ?_
  refine z_iload_n (pc := 42) (i := 0) (j := 0) dJ6_bitCount_0f7a4_42 rfl rfl ?_
  refine z_bipush (pc := 43) dJ6_bitCount_0f7a4_43 kb_16 ?_
  refine z_iushr (pc := 45) dJ6_bitCount_0f7a4_45 ?_
  refine z_iadd (pc := 46) dJ6_bitCount_0f7a4_46 ?_
  refine z_istore_n (pc := 47) (i := 0) (ls' := [(0, .int (((((((v0 - (((Int32.toUInt32 v0 >>> (Int32.toUInt32 1 &&& Int32.toUInt32 31)).toInt32) &&& 1431655765)) &&& 858993459) + (((Int32.toUInt32 (v0 - (((Int32.toUInt32 v0 >>> (Int32.toUInt32 1 &&& Int32.toUInt32 31)).toInt32) &&& 1431655765)) >>> (Int32.toUInt32 2 &&& Int32.toUInt32 31)).toInt32) &&& 858993459)) + ((Int32.toUInt32 (((v0 - (((Int32.toUInt32 v0 >>> (Int32.toUInt32 1 &&& Int32.toUInt32 31)).toInt32) &&& 1431655765)) &&& 858993459) + (((Int32.toUInt32 (v0 - (((Int32.toUInt32 v0 >>> (Int32.toUInt32 1 &&& Int32.toUInt32 31)).toInt32) &&& 1431655765)) >>> (Int32.toUInt32 2 &&& Int32.toUInt32 31)).toInt32) &&& 858993459)) >>> (Int32.toUInt32 4 &&& Int32.toUInt32 31)).toInt32)) &&& 252645135) + ((Int32.toUInt32 (((((v0 - (((Int32.toUInt32 v0 >>> (Int32.toUInt32 1 &&& Int32.toUInt32 31)).toInt32) &&& 1431655765)) &&& 858993459) + (((Int32.toUInt32 (v0 - (((Int32.toUInt32 v0 >>> (Int32.toUInt32 1 &&& Int32.toUInt32 31)).toInt32) &&& 1431655765)) >>> (Int32.toUInt32 2 &&& Int32.toUInt32 31)).toInt32) &&& 858993459)) + ((Int32.toUInt32 (((v0 - (((Int32.toUInt32 v0 >>> (Int32.toUInt32 1 &&& Int32.toUInt32 31)).toInt32) &&& 1431655765)) &&& 858993459) + (((Int32.toUInt32 (v0 - (((Int32.toUInt32 v0 >>> (Int32.toUInt32 1 &&& Int32.toUInt32 31)).toInt32) &&& 1431655765)) >>> (Int32.toUInt32 2 &&& Int32.toUInt32 31)).toInt32) &&& 858993459)) >>> (Int32.toUInt32 4 &&& Int32.toUInt32 31)).toInt32)) &&& 252645135) >>> (Int32.toUInt32 8 &&& Int32.toUInt32 31)).toInt32)) + ((Int32.toUInt32 ((((((v0 - (((Int32.toUInt32 v0 >>> (Int32.toUInt32 1 &&& Int32.toUInt32 31)).toInt32) &&& 1431655765)) &&& 858993459) + (((Int32.toUInt32 (v0 - (((Int32.toUInt32 v0 >>> (Int32.toUInt32 1 &&& Int32.toUInt32 31)).toInt32) &&& 1431655765)) >>> (Int32.toUInt32 2 &&& Int32.toUInt32 31)).toInt32) &&& 858993459)) + ((Int32.toUInt32 (((v0 - (((Int32.toUInt32 v0 >>> (Int32.toUInt32 1 &&& Int32.toUInt32 31)).toInt32) &&& 1431655765)) &&& 858993459) + (((Int32.toUInt32 (v0 - (((Int32.toUInt32 v0 >>> (Int32.toUInt32 1 &&& Int32.toUInt32 31)).toInt32) &&& 1431655765)) >>> (Int32.toUInt32 2 &&& Int32.toUInt32 31)).toInt32) &&& 858993459)) >>> (Int32.toUInt32 4 &&& Int32.toUInt32 31)).toInt32)) &&& 252645135) + ((Int32.toUInt32 (((((v0 - (((Int32.toUInt32 v0 >>> (Int32.toUInt32 1 &&& Int32.toUInt32 31)).toInt32) &&& 1431655765)) &&& 858993459) + (((Int32.toUInt32 (v0 - (((Int32.toUInt32 v0 >>> (Int32.toUInt32 1 &&& Int32.toUInt32 31)).toInt32) &&& 1431655765)) >>> (Int32.toUInt32 2 &&& Int32.toUInt32 31)).toInt32) &&& 858993459)) + ((Int32.toUInt32 (((v0 - (((Int32.toUInt32 v0 >>> (Int32.toUInt32 1 &&& Int32.toUInt32 31)).toInt32) &&& 1431655765)) &&& 858993459) + (((Int32.toUInt32 (v0 - (((Int32.toUInt32 v0 >>> (Int32.toUInt32 1 &&& Int32.toUInt32 31)).toInt32) &&& 1431655765)) >>> (Int32.toUInt32 2 &&& Int32.toUInt32 31)).toInt32) &&& 858993459)) >>> (Int32.toUInt32 4 &&& Int32.toUInt32 31)).toInt32)) &&& 252645135) >>> (Int32.toUInt32 8 &&& Int32.toUInt32 31)).toInt32)) >>> (Int32.toUInt32 16 &&& Int32.toUInt32 31)).toInt32)))]) dJ6_bitCount_0f7a4_47 rfl (Nat.le_of_ble_eq_true rfl) rfl ?_
  refine z_iload_n (pc := 48) (i := 0) (j := 0) dJ6_bitCount_0f7a4_48 rfl rfl ?_
  refine z_bipush (pc := 49) dJ6_bitCount_0f7a4_49 kb_63 ?_
  refine z_iand (pc := 51) dJ6_bitCount_0f7a4_51 ?_
  obtain rfl := Option.some.inj hf
  rw [h0 _ hK]
  exact z_iret dJ6_bitCount_0f7a4_52 rfl rfl
set_option maxHeartbeats 4000000 in
set_option maxRecDepth 100000 in
theorem c_J6_bitCount_0f7a4 (d : Nat) (hd : 0 ≤ d) (v0 : Int32) (m : ej_M) {q : (Int32 × ej_M)} (hf : f_J6_bitCount_0f7a4 v0 m = some q) : ej_Ct yJ6_bitCount_0f7a4 cJ6_bitCount_0f7a4 1 (some .int) d [.int v0] (ej_sh, m) ((some (Value.int q.1), (ej_sh, q.2)) : Option Value × ej_H) := by
  exact z_met (by decide +kernel) (Nat.le_of_ble_eq_true rfl) (b_J6_bitCount_0f7a4 d v0 m (K := fun z => ((some (Value.int q.1), (ej_sh, q.2)) : Option Value × ej_H) = (some (Value.int z.1), (ej_sh, z.2))) hf rfl (fun _ h => h))
def f_X3_finish_B73  (m : ej_M) : Option (Unit × ej_M) :=
  (oj_pf m 18 5 ((m.1 18 5) + 1)).bind fun m1 =>
  some ((), m1)
set_option maxHeartbeats 4000000 in
set_option maxRecDepth 100000 in
theorem b_X3_finish_B73 (e : Nat) (hd : 3 ≤ e)  (m : ej_M) {x : (Unit × ej_M)} {res : Option Value × ej_H} {K : (Unit × ej_M) → Prop} (hf : f_X3_finish_B73  m = some x) (hK : K x) (h0 : ∀ q : (Unit × ej_M), K q → res = (none, (ej_sh, q.2))) : ej_Z cX3_finish 1 none RX3 "finish" (e + 1) 73 [(0, .ref 18)] [] (ej_sh, m) res := by
  unfold f_X3_finish_B73 at hf
  refine z_aload_n (pc := 73) (i := 0) (j := 0) dX3_finish_73 rfl rfl ?_
  refine z_dup (pc := 74) dX3_finish_74 rfl ?_
  refine z_ogetI (pc := 75) dX3_finish_75 lf_RX3_51 sh_18 rfl rfl ?_
  refine z_iconst (pc := 78) dX3_finish_78 ki_1 ?_
  refine z_iadd (pc := 79) dX3_finish_79 ?_
  obtain ⟨m1, hm1, hf⟩ := Option.bind_eq_some_iff.mp hf
  refine z_oputI (pc := 80) dX3_finish_80 lf_RX3_51 sh_18 rfl hm1 ?_
  obtain rfl := Option.some.inj hf
  rw [h0 _ hK]
  exact z_ret dX3_finish_83 rfl
def f_X3_finish_B51  (m : ej_M) : Option (Unit × ej_M) :=
  if (m.1 18 5) = 0 then
    (f_X10_copy 20 21 (m.1 18 4) m).bind fun q1 =>
    f_X3_finish_B73  q1.2
  else
    f_X3_finish_B73  m
set_option maxHeartbeats 4000000 in
set_option maxRecDepth 100000 in
theorem b_X3_finish_B51 (e : Nat) (hd : 3 ≤ e)  (m : ej_M) {x : (Unit × ej_M)} {res : Option Value × ej_H} {K : (Unit × ej_M) → Prop} (hf : f_X3_finish_B51  m = some x) (hK : K x) (h0 : ∀ q : (Unit × ej_M), K q → res = (none, (ej_sh, q.2))) : ej_Z cX3_finish 1 none RX3 "finish" (e + 1) 51 [(0, .ref 18)] [] (ej_sh, m) res := by
  unfold f_X3_finish_B51 at hf
  refine z_aload_n (pc := 51) (i := 0) (j := 0) dX3_finish_51 rfl rfl ?_
  refine z_ogetI (pc := 52) dX3_finish_52 lf_RX3_51 sh_18 rfl rfl ?_
  refine z_if_ne (pc := 55) (tgt := 73) dX3_finish_55 (by decide) (fun hc => ?_) (fun hc => ?_)
  · rw [if_neg hc] at hf
    exact z_pick [0] rfl (b_X3_finish_B73 e hd  m (K := K) hf hK  h0)
  · rw [if_pos hc] at hf
    refine z_aload_n (pc := 58) (i := 0) (j := 0) dX3_finish_58 rfl rfl ?_
    refine z_ogetR (pc := 59) dX3_finish_59 lf_RX3_15 sh_18 rfl rfl rfl ?_
    refine z_aload_n (pc := 62) (i := 0) (j := 0) dX3_finish_62 rfl rfl ?_
    refine z_ogetR (pc := 63) dX3_finish_63 lf_RX3_18 sh_18 rfl rfl rfl ?_
    refine z_aload_n (pc := 66) (i := 0) (j := 0) dX3_finish_66 rfl rfl ?_
    refine z_ogetI (pc := 67) dX3_finish_67 lf_RX3_47 sh_18 rfl rfl ?_
    obtain ⟨q1, hq1, hf⟩ := Option.bind_eq_some_iff.mp hf
    refine z_oSv (pc := 70) (as := [.ref 20, .ref 21, .int (m.1 18 4)]) (rest := []) dX3_finish_70 lm_RX3_82 mf_X10_copy ms_X10_copy rfl rfl (Nat.le_of_ble_eq_true rfl) (c_X10_copy e (by omega) 20 21 (m.1 18 4) m hq1) ?_
    exact z_pick [0] rfl (b_X3_finish_B73 e hd  q1.2 (K := K) hf hK  h0)
def f_X3_finish  (m : ej_M) : Option (Unit × ej_M) :=
  if (m.1 18 4) ≤ 0 then
    f_X3_finish_B51  m
  else
    (f_X4_isLawfulAt 20 (m.1 18 4) ((m.1 18 4) - 1) m).bind fun q1 =>
    if q1.1 = 0 then
      some ((), q1.2)
    else
      (f_X4_isLawfulAt 20 (q1.2.1 18 4) 0 q1.2).bind fun q2 =>
      if q2.1 = 0 then
        some ((), q2.2)
      else
        f_X3_finish_B51  q2.2
set_option maxHeartbeats 4000000 in
set_option maxRecDepth 100000 in
theorem b_X3_finish (e : Nat) (hd : 3 ≤ e)  (m : ej_M) {x : (Unit × ej_M)} {res : Option Value × ej_H} {K : (Unit × ej_M) → Prop} (hf : f_X3_finish  m = some x) (hK : K x) (h0 : ∀ q : (Unit × ej_M), K q → res = (none, (ej_sh, q.2))) : ej_Z cX3_finish 1 none RX3 "finish" (e + 1) 0 [(0, .ref 18)] [] (ej_sh, m) res := by
  unfold f_X3_finish at hf
  refine z_aload_n (pc := 0) (i := 0) (j := 0) dX3_finish_0 rfl rfl ?_
  refine z_ogetI (pc := 1) dX3_finish_1 lf_RX3_47 sh_18 rfl rfl ?_
  refine z_if_le (pc := 4) (tgt := 51) dX3_finish_4 (by decide) (fun hc => ?_) (fun hc => ?_)
  · rw [if_pos hc] at hf
    exact z_pick [0] rfl (b_X3_finish_B51 e hd  m (K := K) hf hK  h0)
  · rw [if_neg hc] at hf
    refine z_aload_n (pc := 7) (i := 0) (j := 0) dX3_finish_7 rfl rfl ?_
    refine z_ogetR (pc := 8) dX3_finish_8 lf_RX3_21 sh_18 rfl rfl rfl ?_
    refine z_aload_n (pc := 11) (i := 0) (j := 0) dX3_finish_11 rfl rfl ?_
    refine z_ogetR (pc := 12) dX3_finish_12 lf_RX3_15 sh_18 rfl rfl rfl ?_
    refine z_aload_n (pc := 15) (i := 0) (j := 0) dX3_finish_15 rfl rfl ?_
    refine z_ogetI (pc := 16) dX3_finish_16 lf_RX3_47 sh_18 rfl rfl ?_
    refine z_aload_n (pc := 19) (i := 0) (j := 0) dX3_finish_19 rfl rfl ?_
    refine z_ogetI (pc := 20) dX3_finish_20 lf_RX3_47 sh_18 rfl rfl ?_
    refine z_iconst (pc := 23) dX3_finish_23 ki_1 ?_
    refine z_isub (pc := 24) dX3_finish_24 ?_
    obtain ⟨q1, hq1, hf⟩ := Option.bind_eq_some_iff.mp hf
    refine z_oVi (pc := 25) (as := [.ref 20, .int (m.1 18 4), .int ((m.1 18 4) - 1)]) (rest := []) dX3_finish_25 lm_RX3_78 mf_X4_isLawfulAt mi_X4_isLawfulAt mv_X4_isLawfulAt rc_6 rfl rfl (Nat.le_of_ble_eq_true rfl) (c_X4_isLawfulAt e (by omega) 20 (m.1 18 4) ((m.1 18 4) - 1) m hq1) ?_
    refine z_if_eq (pc := 28) (tgt := 50) dX3_finish_28 (by decide) (fun hc => ?_) (fun hc => ?_)
    · rw [if_pos hc] at hf
      obtain rfl := Option.some.inj hf
      rw [h0 _ hK]
      exact z_ret dX3_finish_50 rfl
    · rw [if_neg hc] at hf
      refine z_aload_n (pc := 31) (i := 0) (j := 0) dX3_finish_31 rfl rfl ?_
      refine z_ogetR (pc := 32) dX3_finish_32 lf_RX3_21 sh_18 rfl rfl rfl ?_
      refine z_aload_n (pc := 35) (i := 0) (j := 0) dX3_finish_35 rfl rfl ?_
      refine z_ogetR (pc := 36) dX3_finish_36 lf_RX3_15 sh_18 rfl rfl rfl ?_
      refine z_aload_n (pc := 39) (i := 0) (j := 0) dX3_finish_39 rfl rfl ?_
      refine z_ogetI (pc := 40) dX3_finish_40 lf_RX3_47 sh_18 rfl rfl ?_
      refine z_iconst (pc := 43) dX3_finish_43 ki_0 ?_
      obtain ⟨q2, hq2, hf⟩ := Option.bind_eq_some_iff.mp hf
      refine z_oVi (pc := 44) (as := [.ref 20, .int (q1.2.1 18 4), .int 0]) (rest := []) dX3_finish_44 lm_RX3_78 mf_X4_isLawfulAt mi_X4_isLawfulAt mv_X4_isLawfulAt rc_6 rfl rfl (Nat.le_of_ble_eq_true rfl) (c_X4_isLawfulAt e (by omega) 20 (q1.2.1 18 4) 0 q1.2 hq2) ?_
      refine z_if_ne (pc := 47) (tgt := 51) dX3_finish_47 (by decide) (fun hc => ?_) (fun hc => ?_)
      · rw [if_neg hc] at hf
        exact z_pick [0] rfl (b_X3_finish_B51 e hd  q2.2 (K := K) hf hK  h0)
      · rw [if_pos hc] at hf
        obtain rfl := Option.some.inj hf
        rw [h0 _ hK]
        exact z_ret dX3_finish_50 rfl
set_option maxHeartbeats 4000000 in
set_option maxRecDepth 100000 in
theorem c_X3_finish (d : Nat) (hd : 4 ≤ d)  (m : ej_M) {q : (Unit × ej_M)} (hf : f_X3_finish  m = some q) : ej_Ct yX3_finish cX3_finish 1 none d [.ref 18] (ej_sh, m) ((none, (ej_sh, q.2)) : Option Value × ej_H) := by
  obtain ⟨e, rfl⟩ : ∃ e, d = e + 1 := ⟨d - 1, by omega⟩
  exact z_met (by decide +kernel) (Nat.le_of_ble_eq_true rfl) (b_X3_finish e (by omega)  m (K := fun z => ((none, (ej_sh, q.2)) : Option Value × ej_H) = (none, (ej_sh, z.2))) hf rfl (fun _ h => h))
def f_X3_isLawfulBefore_B22 (v1 : Int32) (m : ej_M) : Option (Int32 × ej_M) :=
  (f_X4_isLawfulAt 20 (m.1 18 4) (v1 - 1) m).bind fun q1 =>
  oj_rz q1.1 q1.2
set_option maxHeartbeats 4000000 in
set_option maxRecDepth 100000 in
theorem b_X3_isLawfulBefore_B22 (e : Nat) (hd : 3 ≤ e) (v1 : Int32) (m : ej_M) {x : (Int32 × ej_M)} {res : Option Value × ej_H} {K : (Int32 × ej_M) → Prop} (hf : f_X3_isLawfulBefore_B22 v1 m = some x) (hK : K x) (h0 : ∀ q : (Int32 × ej_M), K q → res = (some (Value.int q.1), (ej_sh, q.2))) : ej_Z cX3_isLawfulBefore 2 (some .boolean) RX3 "isLawfulBefore" (e + 1) 22 [(0, .ref 18), (1, .int v1)] [] (ej_sh, m) res := by
  unfold f_X3_isLawfulBefore_B22 at hf
  refine z_aload_n (pc := 22) (i := 0) (j := 0) dX3_isLawfulBefore_22 rfl rfl ?_
  refine z_ogetR (pc := 23) dX3_isLawfulBefore_23 lf_RX3_21 sh_18 rfl rfl rfl ?_
  refine z_aload_n (pc := 26) (i := 0) (j := 0) dX3_isLawfulBefore_26 rfl rfl ?_
  refine z_ogetR (pc := 27) dX3_isLawfulBefore_27 lf_RX3_15 sh_18 rfl rfl rfl ?_
  refine z_aload_n (pc := 30) (i := 0) (j := 0) dX3_isLawfulBefore_30 rfl rfl ?_
  refine z_ogetI (pc := 31) dX3_isLawfulBefore_31 lf_RX3_47 sh_18 rfl rfl ?_
  refine z_iload_n (pc := 34) (i := 1) (j := 1) dX3_isLawfulBefore_34 rfl rfl ?_
  refine z_iconst (pc := 35) dX3_isLawfulBefore_35 ki_1 ?_
  refine z_isub (pc := 36) dX3_isLawfulBefore_36 ?_
  obtain ⟨q1, hq1, hf⟩ := Option.bind_eq_some_iff.mp hf
  refine z_oVi (pc := 37) (as := [.ref 20, .int (m.1 18 4), .int (v1 - 1)]) (rest := []) dX3_isLawfulBefore_37 lm_RX3_78 mf_X4_isLawfulAt mi_X4_isLawfulAt mv_X4_isLawfulAt rc_6 rfl rfl (Nat.le_of_ble_eq_true rfl) (c_X4_isLawfulAt e (by omega) 20 (m.1 18 4) (v1 - 1) m hq1) ?_
  rw [h0 _ hK]
  exact z_oretz dX3_isLawfulBefore_40 rfl hf
def f_X3_isLawfulBefore (v1 : Int32) (m : ej_M) : Option (Int32 × ej_M) :=
  if v1 = 0 then
    some (1, m)
  else
    if v1 = 1 then
      if (m.1 6 5) = 1 then
        some (1, m)
      else
        f_X3_isLawfulBefore_B22 v1 m
    else
      f_X3_isLawfulBefore_B22 v1 m
set_option maxHeartbeats 4000000 in
set_option maxRecDepth 100000 in
theorem b_X3_isLawfulBefore (e : Nat) (hd : 3 ≤ e) (v1 : Int32) (m : ej_M) {x : (Int32 × ej_M)} {res : Option Value × ej_H} {K : (Int32 × ej_M) → Prop} (hf : f_X3_isLawfulBefore v1 m = some x) (hK : K x) (h0 : ∀ q : (Int32 × ej_M), K q → res = (some (Value.int q.1), (ej_sh, q.2))) : ej_Z cX3_isLawfulBefore 2 (some .boolean) RX3 "isLawfulBefore" (e + 1) 0 [(0, .ref 18), (1, .int v1)] [] (ej_sh, m) res := by
  unfold f_X3_isLawfulBefore at hf
  refine z_iload_n (pc := 0) (i := 1) (j := 1) dX3_isLawfulBefore_0 rfl rfl ?_
  refine z_if_eq (pc := 1) (tgt := 20) dX3_isLawfulBefore_1 (by decide) (fun hc => ?_) (fun hc => ?_)
  · rw [if_pos hc] at hf
    refine z_iconst (pc := 20) dX3_isLawfulBefore_20 ki_1 ?_
    obtain rfl := Option.some.inj hf
    rw [h0 _ hK]
    exact z_iret dX3_isLawfulBefore_21 rfl rfl
  · rw [if_neg hc] at hf
    refine z_iload_n (pc := 4) (i := 1) (j := 1) dX3_isLawfulBefore_4 rfl rfl ?_
    refine z_iconst (pc := 5) dX3_isLawfulBefore_5 ki_1 ?_
    refine z_icmp_ne (pc := 6) (tgt := 22) dX3_isLawfulBefore_6 (by decide) (fun hc => ?_) (fun hc => ?_)
    · rw [if_neg hc] at hf
      exact z_pick [0, 1] rfl (b_X3_isLawfulBefore_B22 e hd v1 m (K := K) hf hK  h0)
    · rw [if_pos hc] at hf
      refine z_aload_n (pc := 9) (i := 0) (j := 0) dX3_isLawfulBefore_9 rfl rfl ?_
      refine z_ogetR (pc := 10) dX3_isLawfulBefore_10 lf_RX3_21 sh_18 rfl rfl rfl ?_
      refine z_ogetI (pc := 13) dX3_isLawfulBefore_13 lf_RX3_73 sh_6 rfl rfl ?_
      refine z_iconst (pc := 16) dX3_isLawfulBefore_16 ki_1 ?_
      refine z_icmp_ne (pc := 17) (tgt := 22) dX3_isLawfulBefore_17 (by decide) (fun hc => ?_) (fun hc => ?_)
      · rw [if_neg hc] at hf
        exact z_pick [0, 1] rfl (b_X3_isLawfulBefore_B22 e hd v1 m (K := K) hf hK  h0)
      · rw [if_pos hc] at hf
        refine z_iconst (pc := 20) dX3_isLawfulBefore_20 ki_1 ?_
        obtain rfl := Option.some.inj hf
        rw [h0 _ hK]
        exact z_iret dX3_isLawfulBefore_21 rfl rfl
set_option maxHeartbeats 4000000 in
set_option maxRecDepth 100000 in
theorem c_X3_isLawfulBefore (d : Nat) (hd : 4 ≤ d) (v1 : Int32) (m : ej_M) {q : (Int32 × ej_M)} (hf : f_X3_isLawfulBefore v1 m = some q) : ej_Ct yX3_isLawfulBefore cX3_isLawfulBefore 2 (some .boolean) d [.ref 18, .int v1] (ej_sh, m) ((some (Value.int q.1), (ej_sh, q.2)) : Option Value × ej_H) := by
  obtain ⟨e, rfl⟩ : ∃ e, d = e + 1 := ⟨d - 1, by omega⟩
  exact z_met (by decide +kernel) (Nat.le_of_ble_eq_true rfl) (b_X3_isLawfulBefore e (by omega) v1 m (K := fun z => ((some (Value.int q.1), (ej_sh, q.2)) : Option Value × ej_H) = (some (Value.int z.1), (ej_sh, z.2))) hf rfl (fun _ h => h))
def Q_X3_fill (Rf : Int32 → Int32 → ej_M → Option (Unit × ej_M)) (e : Nat) : Prop := (∀ (v1 : Int32) (v2 : Int32) (m : ej_M) (q : (Unit × ej_M)), Rf v1 v2 m = some q → ej_Ct yX3_fill cX3_fill 4 none e [.ref 18, .int v1, .int v2] (ej_sh, m) (none, (ej_sh, q.2)))
def f_X3_fill_B67 (Rf : (Int32 → Int32 → ej_M → Option (Unit × ej_M))) (v1 : Int32) (v2 : Int32) (v3 : Int32) (m : ej_M) : Option ((Int32 × ej_M) ⊕ (Unit × ej_M)) :=
  (f_X10_lay 20 v1 v3 m).bind fun q1 =>
  (f_X3_isLawfulBefore v1 q1.2).bind fun q2 =>
  if q2.1 = 0 then
    some (Sum.inl ((v3 + 1), q2.2))
  else
    (Rf (v1 + 1) (v2 &&& ((1 <<< (v3 &&& 31)) ^^^ (-1))) q2.2).bind fun q3 =>
    some (Sum.inl ((v3 + 1), q3.2))
set_option maxHeartbeats 4000000 in
set_option maxRecDepth 100000 in
theorem b_X3_fill_B67 (e : Nat) (hd : 4 ≤ e) (Rf : (Int32 → Int32 → ej_M → Option (Unit × ej_M))) (hR : Q_X3_fill Rf e) (v1 : Int32) (v2 : Int32) (v3 : Int32) (m : ej_M) {x : ((Int32 × ej_M) ⊕ (Unit × ej_M))} {res : Option Value × ej_H} {K : ((Int32 × ej_M) ⊕ (Unit × ej_M)) → Prop} (hf : f_X3_fill_B67 Rf v1 v2 v3 m = some x) (hK : K x) (h1 : ∀ q : (Int32 × ej_M), K (Sum.inl q) → ej_Z cX3_fill 4 none RX3 "fill" (e + 1) 15 [(0, .ref 18), (1, .int v1), (2, .int v2), (3, .int q.1)] [] (ej_sh, q.2) res) (h0 : ∀ q : (Unit × ej_M), K (Sum.inr q) → res = (none, (ej_sh, q.2))) : ej_Z cX3_fill 4 none RX3 "fill" (e + 1) 67 [(0, .ref 18), (1, .int v1), (2, .int v2), (3, .int v3)] [] (ej_sh, m) res := by
  unfold f_X3_fill_B67 at hf
  refine z_aload_n (pc := 67) (i := 0) (j := 0) dX3_fill_67 rfl rfl ?_
  refine z_ogetR (pc := 68) dX3_fill_68 lf_RX3_15 sh_18 rfl rfl rfl ?_
  refine z_iload_n (pc := 71) (i := 1) (j := 1) dX3_fill_71 rfl rfl ?_
  refine z_iload_n (pc := 72) (i := 3) (j := 3) dX3_fill_72 rfl rfl ?_
  obtain ⟨q1, hq1, hf⟩ := Option.bind_eq_some_iff.mp hf
  refine z_oSv (pc := 73) (as := [.ref 20, .int v1, .int v3]) (rest := []) dX3_fill_73 lm_RX3_25 mf_X10_lay ms_X10_lay rfl rfl (Nat.le_of_ble_eq_true rfl) (c_X10_lay e (by omega) 20 v1 v3 m hq1) ?_
  refine z_aload_n (pc := 76) (i := 0) (j := 0) dX3_fill_76 rfl rfl ?_
  refine z_iload_n (pc := 77) (i := 1) (j := 1) dX3_fill_77 rfl rfl ?_
  obtain ⟨q2, hq2, hf⟩ := Option.bind_eq_some_iff.mp hf
  refine z_oVi (pc := 78) (as := [.int v1]) (rest := []) dX3_fill_78 lm_RX3_69 mf_X3_isLawfulBefore mi_X3_isLawfulBefore mv_X3_isLawfulBefore rc_18 rfl rfl (Nat.le_of_ble_eq_true rfl) (c_X3_isLawfulBefore e (by omega) v1 q1.2 hq2) ?_
  refine z_if_eq (pc := 81) (tgt := 98) dX3_fill_81 (by decide) (fun hc => ?_) (fun hc => ?_)
  · rw [if_pos hc] at hf
    refine z_iinc (pc := 98) (j := 3) (ls' := [(3, .int (v3 + 1)), (0, .ref 18), (1, .int v1), (2, .int v2)]) dX3_fill_98 rfl ki_1 (Nat.le_of_ble_eq_true rfl) rfl ?_
    refine z_goto (pc := 101) (tgt := 15) dX3_fill_101 (by decide) ?_
    obtain rfl := Option.some.inj hf
    exact z_pick (ls' := [(0, .ref 18), (1, .int v1), (2, .int v2), (3, .int (v3 + 1))]) [1, 2, 3, 0] rfl (h1 ((v3 + 1), q2.2) hK)
  · rw [if_neg hc] at hf
    refine z_aload_n (pc := 84) (i := 0) (j := 0) dX3_fill_84 rfl rfl ?_
    refine z_iload_n (pc := 85) (i := 1) (j := 1) dX3_fill_85 rfl rfl ?_
    refine z_iconst (pc := 86) dX3_fill_86 ki_1 ?_
    refine z_iadd (pc := 87) dX3_fill_87 ?_
    refine z_iload_n (pc := 88) (i := 2) (j := 2) dX3_fill_88 rfl rfl ?_
    refine z_iconst (pc := 89) dX3_fill_89 ki_1 ?_
    refine z_iload_n (pc := 90) (i := 3) (j := 3) dX3_fill_90 rfl rfl ?_
    refine z_ishl (pc := 91) dX3_fill_91 ?_
    refine z_iconst (pc := 92) dX3_fill_92 ki_n1 ?_
    refine z_ixor (pc := 93) dX3_fill_93 ?_
    refine z_iand (pc := 94) dX3_fill_94 ?_
    obtain ⟨q3, hq3, hf⟩ := Option.bind_eq_some_iff.mp hf
    refine z_oVv (pc := 95) (as := [.int (v1 + 1), .int (v2 &&& ((1 <<< (v3 &&& 31)) ^^^ (-1)))]) (rest := []) dX3_fill_95 lm_RX3_58 mf_X3_fill mi_X3_fill mv_X3_fill rc_18 rfl rfl (Nat.le_of_ble_eq_true rfl) (hR _ _ _ _ hq3) ?_
    refine z_iinc (pc := 98) (j := 3) (ls' := [(3, .int (v3 + 1)), (0, .ref 18), (1, .int v1), (2, .int v2)]) dX3_fill_98 rfl ki_1 (Nat.le_of_ble_eq_true rfl) rfl ?_
    refine z_goto (pc := 101) (tgt := 15) dX3_fill_101 (by decide) ?_
    obtain rfl := Option.some.inj hf
    exact z_pick (ls' := [(0, .ref 18), (1, .int v1), (2, .int v2), (3, .int (v3 + 1))]) [1, 2, 3, 0] rfl (h1 ((v3 + 1), q3.2) hK)
def f_X3_fill_L15b (Rf : (Int32 → Int32 → ej_M → Option (Unit × ej_M))) (v1 : Int32) (v2 : Int32) (v3 : Int32) (m : ej_M) : Option ((Int32 × ej_M) ⊕ (Unit × ej_M)) :=
  if 8 ≤ v3 then
    some (Sum.inr ((), m))
  else
    if (m.1 18 6) ≤ (m.1 18 5) then
      some (Sum.inr ((), m))
    else
      if ((v2 >>> (v3 &&& 31)) &&& 1) = 0 then
        some (Sum.inl ((v3 + 1), m))
      else
        (f_X10_at 19 v1 m).bind fun q1 =>
        if q1.1 = (-1) then
          f_X3_fill_B67 Rf v1 v2 v3 q1.2
        else
          (f_X10_at 19 v1 q1.2).bind fun q2 =>
          if q2.1 = v3 then
            f_X3_fill_B67 Rf v1 v2 v3 q2.2
          else
            some (Sum.inl ((v3 + 1), q2.2))
set_option maxHeartbeats 4000000 in
set_option maxRecDepth 100000 in
theorem b_X3_fill_L15b (e : Nat) (hd : 4 ≤ e) (Rf : (Int32 → Int32 → ej_M → Option (Unit × ej_M))) (hR : Q_X3_fill Rf e) (v1 : Int32) (v2 : Int32) (v3 : Int32) (m : ej_M) {x : ((Int32 × ej_M) ⊕ (Unit × ej_M))} {res : Option Value × ej_H} {K : ((Int32 × ej_M) ⊕ (Unit × ej_M)) → Prop} (hf : f_X3_fill_L15b Rf v1 v2 v3 m = some x) (hK : K x) (h1 : ∀ q : (Int32 × ej_M), K (Sum.inl q) → ej_Z cX3_fill 4 none RX3 "fill" (e + 1) 15 [(0, .ref 18), (1, .int v1), (2, .int v2), (3, .int q.1)] [] (ej_sh, q.2) res) (h0 : ∀ q : (Unit × ej_M), K (Sum.inr q) → res = (none, (ej_sh, q.2))) : ej_Z cX3_fill 4 none RX3 "fill" (e + 1) 15 [(0, .ref 18), (1, .int v1), (2, .int v2), (3, .int v3)] [] (ej_sh, m) res := by
  unfold f_X3_fill_L15b at hf
  refine z_iload_n (pc := 15) (i := 3) (j := 3) dX3_fill_15 rfl rfl ?_
  refine z_bipush (pc := 16) dX3_fill_16 kb_8 ?_
  refine z_icmp_ge (pc := 18) (tgt := 104) dX3_fill_18 (by decide) (fun hc => ?_) (fun hc => ?_)
  · rw [if_pos hc] at hf
    obtain rfl := Option.some.inj hf
    rw [h0 _ hK]
    exact z_ret dX3_fill_104 rfl
  · rw [if_neg hc] at hf
    refine z_aload_n (pc := 21) (i := 0) (j := 0) dX3_fill_21 rfl rfl ?_
    refine z_ogetI (pc := 22) dX3_fill_22 lf_RX3_51 sh_18 rfl rfl ?_
    refine z_aload_n (pc := 25) (i := 0) (j := 0) dX3_fill_25 rfl rfl ?_
    refine z_ogetI (pc := 26) dX3_fill_26 lf_RX3_55 sh_18 rfl rfl ?_
    refine z_icmp_ge (pc := 29) (tgt := 104) dX3_fill_29 (by decide) (fun hc => ?_) (fun hc => ?_)
    · rw [if_pos hc] at hf
      obtain rfl := Option.some.inj hf
      rw [h0 _ hK]
      exact z_ret dX3_fill_104 rfl
    · rw [if_neg hc] at hf
      refine z_iload_n (pc := 32) (i := 2) (j := 2) dX3_fill_32 rfl rfl ?_
      refine z_iload_n (pc := 33) (i := 3) (j := 3) dX3_fill_33 rfl rfl ?_
      refine z_ishr (pc := 34) dX3_fill_34 ?_
      refine z_iconst (pc := 35) dX3_fill_35 ki_1 ?_
      refine z_iand (pc := 36) dX3_fill_36 ?_
      refine z_if_eq (pc := 37) (tgt := 98) dX3_fill_37 (by decide) (fun hc => ?_) (fun hc => ?_)
      · rw [if_pos hc] at hf
        refine z_iinc (pc := 98) (j := 3) (ls' := [(3, .int (v3 + 1)), (0, .ref 18), (1, .int v1), (2, .int v2)]) dX3_fill_98 rfl ki_1 (Nat.le_of_ble_eq_true rfl) rfl ?_
        refine z_goto (pc := 101) (tgt := 15) dX3_fill_101 (by decide) ?_
        obtain rfl := Option.some.inj hf
        exact z_pick (ls' := [(0, .ref 18), (1, .int v1), (2, .int v2), (3, .int (v3 + 1))]) [1, 2, 3, 0] rfl (h1 ((v3 + 1), m) hK)
      · rw [if_neg hc] at hf
        refine z_aload_n (pc := 40) (i := 0) (j := 0) dX3_fill_40 rfl rfl ?_
        refine z_ogetR (pc := 41) dX3_fill_41 lf_RX3_9 sh_18 rfl rfl rfl ?_
        refine z_iload_n (pc := 44) (i := 1) (j := 1) dX3_fill_44 rfl rfl ?_
        obtain ⟨q1, hq1, hf⟩ := Option.bind_eq_some_iff.mp hf
        refine z_oSi (pc := 45) (as := [.ref 19, .int v1]) (rest := []) dX3_fill_45 lm_RX3_62 mf_X10_at ms_X10_at rfl rfl (Nat.le_of_ble_eq_true rfl) (c_X10_at e (by omega) 19 v1 m hq1) ?_
        refine z_iconst (pc := 48) dX3_fill_48 ki_n1 ?_
        refine z_icmp_eq (pc := 49) (tgt := 67) dX3_fill_49 (by decide) (fun hc => ?_) (fun hc => ?_)
        · rw [if_pos hc] at hf
          exact z_pick [0, 1, 2, 3] rfl (b_X3_fill_B67 e hd Rf hR v1 v2 v3 q1.2 (K := K) hf hK h1 h0)
        · rw [if_neg hc] at hf
          refine z_aload_n (pc := 52) (i := 0) (j := 0) dX3_fill_52 rfl rfl ?_
          refine z_ogetR (pc := 53) dX3_fill_53 lf_RX3_9 sh_18 rfl rfl rfl ?_
          refine z_iload_n (pc := 56) (i := 1) (j := 1) dX3_fill_56 rfl rfl ?_
          obtain ⟨q2, hq2, hf⟩ := Option.bind_eq_some_iff.mp hf
          refine z_oSi (pc := 57) (as := [.ref 19, .int v1]) (rest := []) dX3_fill_57 lm_RX3_62 mf_X10_at ms_X10_at rfl rfl (Nat.le_of_ble_eq_true rfl) (c_X10_at e (by omega) 19 v1 q1.2 hq2) ?_
          refine z_iload_n (pc := 60) (i := 3) (j := 3) dX3_fill_60 rfl rfl ?_
          refine z_icmp_eq (pc := 61) (tgt := 67) dX3_fill_61 (by decide) (fun hc => ?_) (fun hc => ?_)
          · rw [if_pos hc] at hf
            exact z_pick [0, 1, 2, 3] rfl (b_X3_fill_B67 e hd Rf hR v1 v2 v3 q2.2 (K := K) hf hK h1 h0)
          · rw [if_neg hc] at hf
            refine z_goto (pc := 64) (tgt := 98) dX3_fill_64 (by decide) ?_
            refine z_iinc (pc := 98) (j := 3) (ls' := [(3, .int (v3 + 1)), (0, .ref 18), (1, .int v1), (2, .int v2)]) dX3_fill_98 rfl ki_1 (Nat.le_of_ble_eq_true rfl) rfl ?_
            refine z_goto (pc := 101) (tgt := 15) dX3_fill_101 (by decide) ?_
            obtain rfl := Option.some.inj hf
            exact z_pick (ls' := [(0, .ref 18), (1, .int v1), (2, .int v2), (3, .int (v3 + 1))]) [1, 2, 3, 0] rfl (h1 ((v3 + 1), q2.2) hK)
def f_X3_fill_L15 (Rf : (Int32 → Int32 → ej_M → Option (Unit × ej_M))) (v1 : Int32) (v2 : Int32) (v3 : Int32) (m : ej_M) : Option (Unit × ej_M) := oj_loop (fun q : (Int32 × ej_M) => f_X3_fill_L15b Rf v1 v2 q.1 q.2) oj_FU (v3, m)
set_option maxHeartbeats 4000000 in
set_option maxRecDepth 100000 in
theorem b_X3_fill_L15 (e : Nat) (hd : 4 ≤ e) (Rf : (Int32 → Int32 → ej_M → Option (Unit × ej_M))) (hR : Q_X3_fill Rf e) (v1 : Int32) (v2 : Int32) (v3 : Int32) (m : ej_M) {x : (Unit × ej_M)} {res : Option Value × ej_H} {K : (Unit × ej_M) → Prop} (hf : f_X3_fill_L15 Rf v1 v2 v3 m = some x) (hK : K x) (h0 : ∀ q : (Unit × ej_M), K q → res = (none, (ej_sh, q.2))) : ej_Z cX3_fill 4 none RX3 "fill" (e + 1) 15 [(0, .ref 18), (1, .int v1), (2, .int v2), (3, .int v3)] [] (ej_sh, m) res :=
  oj_loop_Z (body := fun q : (Int32 × ej_M) => f_X3_fill_L15b Rf v1 v2 q.1 q.2) (P := fun q : (Int32 × ej_M) => ej_Z cX3_fill 4 none RX3 "fill" (e + 1) 15 [(0, .ref 18), (1, .int v1), (2, .int v2), (3, .int q.1)] [] (ej_sh, q.2) res) (K := K) (fun s x hb hl hr => b_X3_fill_L15b e hd Rf hR v1 v2  s.1 s.2 (K := fun x => (∀ s' : (Int32 × ej_M), x = Sum.inl s' → ej_Z cX3_fill 4 none RX3 "fill" (e + 1) 15 [(0, .ref 18), (1, .int v1), (2, .int v2), (3, .int s'.1)] [] (ej_sh, s'.2) res) ∧ ∀ e, x = Sum.inr e → K e) hb ⟨hl, hr⟩ (fun q hq => hq.1 q rfl) (fun q hq => h0 q (hq.2 _ rfl))) oj_FU (v3, m) x hf hK
def f_X3_fill_e (Rf : (Int32 → Int32 → ej_M → Option (Unit × ej_M))) (v1 : Int32) (v2 : Int32) (m : ej_M) : Option (Unit × ej_M) :=
  if v1 < (m.1 18 4) then
    f_X3_fill_L15 Rf v1 v2 0 m
  else
    (f_X3_finish m).bind fun q1 =>
    some ((), q1.2)
set_option maxHeartbeats 4000000 in
set_option maxRecDepth 100000 in
theorem b_X3_fill_e (e : Nat) (hd : 4 ≤ e) (Rf : (Int32 → Int32 → ej_M → Option (Unit × ej_M))) (hR : Q_X3_fill Rf e) (v1 : Int32) (v2 : Int32) (m : ej_M) {x : (Unit × ej_M)} {res : Option Value × ej_H} {K : (Unit × ej_M) → Prop} (hf : f_X3_fill_e Rf v1 v2 m = some x) (hK : K x) (h0 : ∀ q : (Unit × ej_M), K q → res = (none, (ej_sh, q.2))) : ej_Z cX3_fill 4 none RX3 "fill" (e + 1) 0 [(0, .ref 18), (1, .int v1), (2, .int v2)] [] (ej_sh, m) res := by
  unfold f_X3_fill_e at hf
  refine z_iload_n (pc := 0) (i := 1) (j := 1) dX3_fill_0 rfl rfl ?_
  refine z_aload_n (pc := 1) (i := 0) (j := 0) dX3_fill_1 rfl rfl ?_
  refine z_ogetI (pc := 2) dX3_fill_2 lf_RX3_47 sh_18 rfl rfl ?_
  refine z_icmp_lt (pc := 5) (tgt := 13) dX3_fill_5 (by decide) (fun hc => ?_) (fun hc => ?_)
  · rw [if_pos hc] at hf
    refine z_iconst (pc := 13) dX3_fill_13 ki_0 ?_
    refine z_istore_n (pc := 14) (i := 3) (ls' := [(3, .int 0), (0, .ref 18), (1, .int v1), (2, .int v2)]) dX3_fill_14 rfl (Nat.le_of_ble_eq_true rfl) rfl ?_
    exact z_pick [1, 2, 3, 0] rfl (b_X3_fill_L15 e hd Rf hR v1 v2 0 m (K := K) hf hK  h0)
  · rw [if_neg hc] at hf
    refine z_aload_n (pc := 8) (i := 0) (j := 0) dX3_fill_8 rfl rfl ?_
    obtain ⟨q1, hq1, hf⟩ := Option.bind_eq_some_iff.mp hf
    refine z_oVv (pc := 9) (as := []) (rest := []) dX3_fill_9 lm_RX3_66 mf_X3_finish mi_X3_finish mv_X3_finish rc_18 rfl rfl (Nat.le_of_ble_eq_true rfl) (c_X3_finish e (by omega) m hq1) ?_
    obtain rfl := Option.some.inj hf
    rw [h0 _ hK]
    exact z_ret dX3_fill_12 rfl
def g_X3_fill : Nat → (Int32 → Int32 → ej_M → Option (Unit × ej_M))
  | 0 => (fun _ _ _ => none)
  | n + 1 => (f_X3_fill_e (g_X3_fill n))
set_option maxHeartbeats 4000000 in
set_option maxRecDepth 100000 in
theorem c9_X3_fill : ∀ (n d : Nat), 5 + n ≤ d → Q_X3_fill (g_X3_fill n) d := by
  intro n
  induction n with
  | zero =>
    intro d _
    exact (fun _ _ _ _ h => by cases h)
  | succ n ih =>
    intro d hd
    obtain ⟨e, rfl⟩ : ∃ e, d = e + 1 := ⟨d - 1, by omega⟩
    refine ?_
    · intro v1 v2 m q hf
      exact z_met (by decide +kernel) (Nat.le_of_ble_eq_true rfl) (b_X3_fill_e e (by omega) (g_X3_fill n) (ih e (by omega)) v1 v2 m (K := fun z => ((none, (ej_sh, q.2)) : Option Value × ej_H) = (none, (ej_sh, z.2))) hf rfl (fun _ h => h))
def f_X3_fill (n : Nat) (v1 : Int32) (v2 : Int32) (m : ej_M) : Option (Unit × ej_M) := (g_X3_fill n) v1 v2 m
set_option maxHeartbeats 4000000 in
set_option maxRecDepth 100000 in
theorem c_X3_fill (d : Nat) (hd : 125 ≤ d) (v1 : Int32) (v2 : Int32) (m : ej_M) {q : (Unit × ej_M)} (hf : f_X3_fill oj_RF v1 v2 m = some q) : ej_Ct yX3_fill cX3_fill 4 none d [.ref 18, .int v1, .int v2] (ej_sh, m) (none, (ej_sh, q.2)) := (c9_X3_fill oj_RF d hd) v1 v2 m q hf
def f_X3_answer_B25 (v1 : Int32) (v2 : Int32) (s0 : Int32) (m : ej_M) : Option (Int32 × ej_M) :=
  (oj_pf m 18 6 s0).bind fun m1 =>
  (f_X3_fill oj_RF 0 v1 m1).bind fun q2 =>
  if v2 = (-1) then
    some ((q2.2.1 18 5), q2.2)
  else
    if (q2.2.1 18 5) = 0 then
      some ((-2), q2.2)
    else
      (f_X10_at 21 v2 q2.2).bind fun q3 =>
      some (q3.1, q3.2)
set_option maxHeartbeats 4000000 in
set_option maxRecDepth 100000 in
theorem b_X3_answer_B25 (e : Nat) (hd : 125 ≤ e) (v1 : Int32) (v2 : Int32) (s0 : Int32) (m : ej_M) {x : (Int32 × ej_M)} {res : Option Value × ej_H} {K : (Int32 × ej_M) → Prop} (hf : f_X3_answer_B25 v1 v2 s0 m = some x) (hK : K x) (h0 : ∀ q : (Int32 × ej_M), K q → res = (some (Value.int q.1), (ej_sh, q.2))) : ej_Z cX3_answer 3 (some .int) RX3 "answer" (e + 1) 25 [(0, .ref 18), (1, .int v1), (2, .int v2)] [.int s0, .ref 18] (ej_sh, m) res := by
  unfold f_X3_answer_B25 at hf
  obtain ⟨m1, hm1, hf⟩ := Option.bind_eq_some_iff.mp hf
  refine z_oputI (pc := 25) dX3_answer_25 lf_RX3_55 sh_18 rfl hm1 ?_
  refine z_aload_n (pc := 28) (i := 0) (j := 0) dX3_answer_28 rfl rfl ?_
  refine z_iconst (pc := 29) dX3_answer_29 ki_0 ?_
  refine z_iload_n (pc := 30) (i := 1) (j := 1) dX3_answer_30 rfl rfl ?_
  obtain ⟨q2, hq2, hf⟩ := Option.bind_eq_some_iff.mp hf
  refine z_oVv (pc := 31) (as := [.int 0, .int v1]) (rest := []) dX3_answer_31 lm_RX3_58 mf_X3_fill mi_X3_fill mv_X3_fill rc_18 rfl rfl (Nat.le_of_ble_eq_true rfl) (c_X3_fill e (by omega) 0 v1 m1 hq2) ?_
  refine z_iload_n (pc := 34) (i := 2) (j := 2) dX3_answer_34 rfl rfl ?_
  refine z_iconst (pc := 35) dX3_answer_35 ki_n1 ?_
  refine z_icmp_ne (pc := 36) (tgt := 44) dX3_answer_36 (by decide) (fun hc => ?_) (fun hc => ?_)
  · rw [if_neg hc] at hf
    refine z_aload_n (pc := 44) (i := 0) (j := 0) dX3_answer_44 rfl rfl ?_
    refine z_ogetI (pc := 45) dX3_answer_45 lf_RX3_51 sh_18 rfl rfl ?_
    refine z_if_ne (pc := 48) (tgt := 56) dX3_answer_48 (by decide) (fun hc => ?_) (fun hc => ?_)
    · rw [if_neg hc] at hf
      refine z_aload_n (pc := 56) (i := 0) (j := 0) dX3_answer_56 rfl rfl ?_
      refine z_ogetR (pc := 57) dX3_answer_57 lf_RX3_18 sh_18 rfl rfl rfl ?_
      refine z_iload_n (pc := 60) (i := 2) (j := 2) dX3_answer_60 rfl rfl ?_
      obtain ⟨q3, hq3, hf⟩ := Option.bind_eq_some_iff.mp hf
      refine z_oSi (pc := 61) (as := [.ref 21, .int v2]) (rest := []) dX3_answer_61 lm_RX3_62 mf_X10_at ms_X10_at rfl rfl (Nat.le_of_ble_eq_true rfl) (c_X10_at e (by omega) 21 v2 q2.2 hq3) ?_
      obtain rfl := Option.some.inj hf
      rw [h0 _ hK]
      exact z_iret dX3_answer_64 rfl rfl
    · rw [if_pos hc] at hf
      refine z_bipush (pc := 51) dX3_answer_51 kb_n2 ?_
      refine z_goto (pc := 53) (tgt := 64) dX3_answer_53 (by decide) ?_
      obtain rfl := Option.some.inj hf
      rw [h0 _ hK]
      exact z_iret dX3_answer_64 rfl rfl
  · rw [if_pos hc] at hf
    refine z_aload_n (pc := 39) (i := 0) (j := 0) dX3_answer_39 rfl rfl ?_
    refine z_ogetI (pc := 40) dX3_answer_40 lf_RX3_51 sh_18 rfl rfl ?_
    obtain rfl := Option.some.inj hf
    rw [h0 _ hK]
    exact z_iret dX3_answer_43 rfl rfl
def f_X3_answer (v1 : Int32) (v2 : Int32) (m : ej_M) : Option (Int32 × ej_M) :=
  (f_J6_bitCount_0f7a4 v1 m).bind fun q1 =>
  (oj_pf q1.2 18 4 q1.1).bind fun m2 =>
  (oj_pf m2 18 5 0).bind fun m3 =>
  if v2 = (-1) then
    f_X3_answer_B25 v1 v2 40320 m3
  else
    f_X3_answer_B25 v1 v2 1 m3
set_option maxHeartbeats 4000000 in
set_option maxRecDepth 100000 in
theorem b_X3_answer (e : Nat) (hd : 125 ≤ e) (v1 : Int32) (v2 : Int32) (m : ej_M) {x : (Int32 × ej_M)} {res : Option Value × ej_H} {K : (Int32 × ej_M) → Prop} (hf : f_X3_answer v1 v2 m = some x) (hK : K x) (h0 : ∀ q : (Int32 × ej_M), K q → res = (some (Value.int q.1), (ej_sh, q.2))) : ej_Z cX3_answer 3 (some .int) RX3 "answer" (e + 1) 0 [(0, .ref 18), (1, .int v1), (2, .int v2)] [] (ej_sh, m) res := by
  unfold f_X3_answer at hf
  refine z_aload_n (pc := 0) (i := 0) (j := 0) dX3_answer_0 rfl rfl ?_
  refine z_iload_n (pc := 1) (i := 1) (j := 1) dX3_answer_1 rfl rfl ?_
  obtain ⟨q1, hq1, hf⟩ := Option.bind_eq_some_iff.mp hf
  refine z_oSi (pc := 2) (as := [.int v1]) (rest := [.ref 18]) dX3_answer_2 lm_RX3_42 mf_J6_bitCount_0f7a4 ms_J6_bitCount_0f7a4 rfl rfl (Nat.le_of_ble_eq_true rfl) (c_J6_bitCount_0f7a4 e (by omega) v1 m hq1) ?_
  obtain ⟨m2, hm2, hf⟩ := Option.bind_eq_some_iff.mp hf
  refine z_oputI (pc := 5) dX3_answer_5 lf_RX3_47 sh_18 rfl hm2 ?_
  refine z_aload_n (pc := 8) (i := 0) (j := 0) dX3_answer_8 rfl rfl ?_
  refine z_iconst (pc := 9) dX3_answer_9 ki_0 ?_
  obtain ⟨m3, hm3, hf⟩ := Option.bind_eq_some_iff.mp hf
  refine z_oputI (pc := 10) dX3_answer_10 lf_RX3_51 sh_18 rfl hm3 ?_
  refine z_aload_n (pc := 13) (i := 0) (j := 0) dX3_answer_13 rfl rfl ?_
  refine z_iload_n (pc := 14) (i := 2) (j := 2) dX3_answer_14 rfl rfl ?_
  refine z_iconst (pc := 15) dX3_answer_15 ki_n1 ?_
  refine z_icmp_ne (pc := 16) (tgt := 24) dX3_answer_16 (by decide) (fun hc => ?_) (fun hc => ?_)
  · rw [if_neg hc] at hf
    refine z_iconst (pc := 24) dX3_answer_24 ki_1 ?_
    exact z_pick [0, 1, 2] rfl (b_X3_answer_B25 e hd v1 v2 1 m3 (K := K) hf hK  h0)
  · rw [if_pos hc] at hf
    refine z_ldc (pc := 19) dX3_answer_19 lc_RX3_54 ?_
    refine z_goto (pc := 21) (tgt := 25) dX3_answer_21 (by decide) ?_
    exact z_pick [0, 1, 2] rfl (b_X3_answer_B25 e hd v1 v2 40320 m3 (K := K) hf hK  h0)
set_option maxHeartbeats 4000000 in
set_option maxRecDepth 100000 in
theorem c_X3_answer (d : Nat) (hd : 126 ≤ d) (v1 : Int32) (v2 : Int32) (m : ej_M) {q : (Int32 × ej_M)} (hf : f_X3_answer v1 v2 m = some q) : ej_Ct yX3_answer cX3_answer 3 (some .int) d [.ref 18, .int v1, .int v2] (ej_sh, m) ((some (Value.int q.1), (ej_sh, q.2)) : Option Value × ej_H) := by
  obtain ⟨e, rfl⟩ : ∃ e, d = e + 1 := ⟨d - 1, by omega⟩
  exact z_met (by decide +kernel) (Nat.le_of_ble_eq_true rfl) (b_X3_answer e (by omega) v1 v2 m (K := fun z => ((some (Value.int q.1), (ej_sh, q.2)) : Option Value × ej_H) = (some (Value.int z.1), (ej_sh, z.2))) hf rfl (fun _ h => h))
def f_X3_fitAll_L2b (v1 : Int32) (m : ej_M) : Option ((Int32 × ej_M) ⊕ (Unit × ej_M)) :=
  if 8 ≤ v1 then
    some (Sum.inr ((), m))
  else
    (f_X10_lay 19 v1 (-1) m).bind fun q1 =>
    some (Sum.inl ((v1 + 1), q1.2))
set_option maxHeartbeats 4000000 in
set_option maxRecDepth 100000 in
theorem b_X3_fitAll_L2b (e : Nat) (hd : 0 ≤ e) (v1 : Int32) (m : ej_M) {x : ((Int32 × ej_M) ⊕ (Unit × ej_M))} {res : Option Value × ej_H} {K : ((Int32 × ej_M) ⊕ (Unit × ej_M)) → Prop} (hf : f_X3_fitAll_L2b v1 m = some x) (hK : K x) (h1 : ∀ q : (Int32 × ej_M), K (Sum.inl q) → ej_Z cX3_fitAll 2 none RX3 "fitAll" (e + 1) 2 [(0, .ref 18), (1, .int q.1)] [] (ej_sh, q.2) res) (h0 : ∀ q : (Unit × ej_M), K (Sum.inr q) → res = (none, (ej_sh, q.2))) : ej_Z cX3_fitAll 2 none RX3 "fitAll" (e + 1) 2 [(0, .ref 18), (1, .int v1)] [] (ej_sh, m) res := by
  unfold f_X3_fitAll_L2b at hf
  refine z_iload_n (pc := 2) (i := 1) (j := 1) dX3_fitAll_2 rfl rfl ?_
  refine z_bipush (pc := 3) dX3_fitAll_3 kb_8 ?_
  refine z_icmp_ge (pc := 5) (tgt := 23) dX3_fitAll_5 (by decide) (fun hc => ?_) (fun hc => ?_)
  · rw [if_pos hc] at hf
    obtain rfl := Option.some.inj hf
    rw [h0 _ hK]
    exact z_ret dX3_fitAll_23 rfl
  · rw [if_neg hc] at hf
    refine z_aload_n (pc := 8) (i := 0) (j := 0) dX3_fitAll_8 rfl rfl ?_
    refine z_ogetR (pc := 9) dX3_fitAll_9 lf_RX3_9 sh_18 rfl rfl rfl ?_
    refine z_iload_n (pc := 12) (i := 1) (j := 1) dX3_fitAll_12 rfl rfl ?_
    refine z_iconst (pc := 13) dX3_fitAll_13 ki_n1 ?_
    obtain ⟨q1, hq1, hf⟩ := Option.bind_eq_some_iff.mp hf
    refine z_oSv (pc := 14) (as := [.ref 19, .int v1, .int (-1)]) (rest := []) dX3_fitAll_14 lm_RX3_25 mf_X10_lay ms_X10_lay rfl rfl (Nat.le_of_ble_eq_true rfl) (c_X10_lay e (by omega) 19 v1 (-1) m hq1) ?_
    refine z_iinc (pc := 17) (j := 1) (ls' := [(1, .int (v1 + 1)), (0, .ref 18)]) dX3_fitAll_17 rfl ki_1 (Nat.le_of_ble_eq_true rfl) rfl ?_
    refine z_goto (pc := 20) (tgt := 2) dX3_fitAll_20 (by decide) ?_
    obtain rfl := Option.some.inj hf
    exact z_pick (ls' := [(0, .ref 18), (1, .int (v1 + 1))]) [1, 0] rfl (h1 ((v1 + 1), q1.2) hK)
def f_X3_fitAll_L2 (v1 : Int32) (m : ej_M) : Option (Unit × ej_M) := oj_loop (fun q : (Int32 × ej_M) => f_X3_fitAll_L2b q.1 q.2) oj_FU (v1, m)
set_option maxHeartbeats 4000000 in
set_option maxRecDepth 100000 in
theorem b_X3_fitAll_L2 (e : Nat) (hd : 0 ≤ e) (v1 : Int32) (m : ej_M) {x : (Unit × ej_M)} {res : Option Value × ej_H} {K : (Unit × ej_M) → Prop} (hf : f_X3_fitAll_L2 v1 m = some x) (hK : K x) (h0 : ∀ q : (Unit × ej_M), K q → res = (none, (ej_sh, q.2))) : ej_Z cX3_fitAll 2 none RX3 "fitAll" (e + 1) 2 [(0, .ref 18), (1, .int v1)] [] (ej_sh, m) res :=
  oj_loop_Z (body := fun q : (Int32 × ej_M) => f_X3_fitAll_L2b q.1 q.2) (P := fun q : (Int32 × ej_M) => ej_Z cX3_fitAll 2 none RX3 "fitAll" (e + 1) 2 [(0, .ref 18), (1, .int q.1)] [] (ej_sh, q.2) res) (K := K) (fun s x hb hl hr => b_X3_fitAll_L2b e hd  s.1 s.2 (K := fun x => (∀ s' : (Int32 × ej_M), x = Sum.inl s' → ej_Z cX3_fitAll 2 none RX3 "fitAll" (e + 1) 2 [(0, .ref 18), (1, .int s'.1)] [] (ej_sh, s'.2) res) ∧ ∀ e, x = Sum.inr e → K e) hb ⟨hl, hr⟩ (fun q hq => hq.1 q rfl) (fun q hq => h0 q (hq.2 _ rfl))) oj_FU (v1, m) x hf hK
def f_X3_fitAll  (m : ej_M) : Option (Unit × ej_M) :=
  f_X3_fitAll_L2 0 m
set_option maxHeartbeats 4000000 in
set_option maxRecDepth 100000 in
theorem b_X3_fitAll (e : Nat) (hd : 0 ≤ e)  (m : ej_M) {x : (Unit × ej_M)} {res : Option Value × ej_H} {K : (Unit × ej_M) → Prop} (hf : f_X3_fitAll  m = some x) (hK : K x) (h0 : ∀ q : (Unit × ej_M), K q → res = (none, (ej_sh, q.2))) : ej_Z cX3_fitAll 2 none RX3 "fitAll" (e + 1) 0 [(0, .ref 18)] [] (ej_sh, m) res := by
  unfold f_X3_fitAll at hf
  refine z_iconst (pc := 0) dX3_fitAll_0 ki_0 ?_
  refine z_istore_n (pc := 1) (i := 1) (ls' := [(1, .int 0), (0, .ref 18)]) dX3_fitAll_1 rfl (Nat.le_of_ble_eq_true rfl) rfl ?_
  exact z_pick [1, 0] rfl (b_X3_fitAll_L2 e hd 0 m (K := K) hf hK  h0)
set_option maxHeartbeats 4000000 in
set_option maxRecDepth 100000 in
theorem c_X3_fitAll (d : Nat) (hd : 1 ≤ d)  (m : ej_M) {q : (Unit × ej_M)} (hf : f_X3_fitAll  m = some q) : ej_Ct yX3_fitAll cX3_fitAll 2 none d [.ref 18] (ej_sh, m) ((none, (ej_sh, q.2)) : Option Value × ej_H) := by
  obtain ⟨e, rfl⟩ : ∃ e, d = e + 1 := ⟨d - 1, by omega⟩
  exact z_met (by decide +kernel) (Nat.le_of_ble_eq_true rfl) (b_X3_fitAll e (by omega)  m (K := fun z => ((none, (ej_sh, q.2)) : Option Value × ej_H) = (none, (ej_sh, z.2))) hf rfl (fun _ h => h))
def f_X4_isSet (v1 : Int32) (m : ej_M) : Option (Int32 × ej_M) :=
  if v1 < 0 then
    some (0, m)
  else
    if (1 <<< ((m.1 6 2) &&& 31)) ≤ v1 then
      some (0, m)
    else
      some (1, m)
set_option maxHeartbeats 4000000 in
set_option maxRecDepth 100000 in
theorem b_X4_isSet (d : Nat) (v1 : Int32) (m : ej_M) {x : (Int32 × ej_M)} {res : Option Value × ej_H} {K : (Int32 × ej_M) → Prop} (hf : f_X4_isSet v1 m = some x) (hK : K x) (h0 : ∀ q : (Int32 × ej_M), K q → res = (some (Value.int q.1), (ej_sh, q.2))) : ej_Z cX4_isSet 2 (some .boolean) RX4 "isSet" d 0 [(0, .ref 6), (1, .int v1)] [] (ej_sh, m) res := by
  unfold f_X4_isSet at hf
  refine z_iload_n (pc := 0) (i := 1) (j := 1) dX4_isSet_0 rfl rfl ?_
  refine z_if_lt (pc := 1) (tgt := 18) dX4_isSet_1 (by decide) (fun hc => ?_) (fun hc => ?_)
  · rw [if_pos hc] at hf
    refine z_iconst (pc := 18) dX4_isSet_18 ki_0 ?_
    obtain rfl := Option.some.inj hf
    rw [h0 _ hK]
    exact z_iret dX4_isSet_19 rfl rfl
  · rw [if_neg hc] at hf
    refine z_iload_n (pc := 4) (i := 1) (j := 1) dX4_isSet_4 rfl rfl ?_
    refine z_iconst (pc := 5) dX4_isSet_5 ki_1 ?_
    refine z_aload_n (pc := 6) (i := 0) (j := 0) dX4_isSet_6 rfl rfl ?_
    refine z_ogetI (pc := 7) dX4_isSet_7 lf_RX4_36 sh_6 rfl rfl ?_
    refine z_ishl (pc := 10) dX4_isSet_10 ?_
    refine z_icmp_ge (pc := 11) (tgt := 18) dX4_isSet_11 (by decide) (fun hc => ?_) (fun hc => ?_)
    · rw [if_pos hc] at hf
      refine z_iconst (pc := 18) dX4_isSet_18 ki_0 ?_
      obtain rfl := Option.some.inj hf
      rw [h0 _ hK]
      exact z_iret dX4_isSet_19 rfl rfl
    · rw [if_neg hc] at hf
      refine z_iconst (pc := 14) dX4_isSet_14 ki_1 ?_
      refine z_goto (pc := 15) (tgt := 19) dX4_isSet_15 (by decide) ?_
      obtain rfl := Option.some.inj hf
      rw [h0 _ hK]
      exact z_iret dX4_isSet_19 rfl rfl
set_option maxHeartbeats 4000000 in
set_option maxRecDepth 100000 in
theorem c_X4_isSet (d : Nat) (hd : 0 ≤ d) (v1 : Int32) (m : ej_M) {q : (Int32 × ej_M)} (hf : f_X4_isSet v1 m = some q) : ej_Ct yX4_isSet cX4_isSet 2 (some .boolean) d [.ref 6, .int v1] (ej_sh, m) ((some (Value.int q.1), (ej_sh, q.2)) : Option Value × ej_H) := by
  exact z_met (by decide +kernel) (Nat.le_of_ble_eq_true rfl) (b_X4_isSet d v1 m (K := fun z => ((some (Value.int q.1), (ej_sh, q.2)) : Option Value × ej_H) = (some (Value.int z.1), (ej_sh, z.2))) hf rfl (fun _ h => h))
def f_X10_rows (v1 : Int32) (v2 : Int32) (m : ej_M) : Option (Int32 × ej_M) :=
  (f_X4_isSet v1 m).bind fun q1 =>
  if q1.1 = 0 then
    some ((-1), q1.2)
  else
    if v2 < (-1) then
      some ((-1), q1.2)
    else
      (f_J6_bitCount_0f7a4 v1 q1.2).bind fun q2 =>
      if v2 < q2.1 then
        (f_X3_fitAll q2.2).bind fun q3 =>
        (f_X3_answer v1 v2 q3.2).bind fun q4 =>
        some (q4.1, q4.2)
      else
        some ((-1), q2.2)
set_option maxHeartbeats 4000000 in
set_option maxRecDepth 100000 in
theorem b_X10_rows (e : Nat) (hd : 126 ≤ e) (v1 : Int32) (v2 : Int32) (m : ej_M) {x : (Int32 × ej_M)} {res : Option Value × ej_H} {K : (Int32 × ej_M) → Prop} (hf : f_X10_rows v1 v2 m = some x) (hK : K x) (h0 : ∀ q : (Int32 × ej_M), K q → res = (some (Value.int q.1), (ej_sh, q.2))) : ej_Z cX10_rows 3 (some .int) RX10 "rows" (e + 1) 0 [(0, .ref 0), (1, .int v1), (2, .int v2)] [] (ej_sh, m) res := by
  unfold f_X10_rows at hf
  refine z_aload_n (pc := 0) (i := 0) (j := 0) dX10_rows_0 rfl rfl ?_
  refine z_ogetR (pc := 1) dX10_rows_1 lf_RX10_21 sh_0 rfl rfl rfl ?_
  refine z_iload_n (pc := 4) (i := 1) (j := 1) dX10_rows_4 rfl rfl ?_
  obtain ⟨q1, hq1, hf⟩ := Option.bind_eq_some_iff.mp hf
  refine z_oVi (pc := 5) (as := [.int v1]) (rest := []) dX10_rows_5 lm_RX10_183 mf_X4_isSet mi_X4_isSet mv_X4_isSet rc_6 rfl rfl (Nat.le_of_ble_eq_true rfl) (c_X4_isSet e (by omega) v1 m hq1) ?_
  refine z_if_eq (pc := 8) (tgt := 24) dX10_rows_8 (by decide) (fun hc => ?_) (fun hc => ?_)
  · rw [if_pos hc] at hf
    refine z_iconst (pc := 24) dX10_rows_24 ki_n1 ?_
    obtain rfl := Option.some.inj hf
    rw [h0 _ hK]
    exact z_iret dX10_rows_25 rfl rfl
  · rw [if_neg hc] at hf
    refine z_iload_n (pc := 11) (i := 2) (j := 2) dX10_rows_11 rfl rfl ?_
    refine z_iconst (pc := 12) dX10_rows_12 ki_n1 ?_
    refine z_icmp_lt (pc := 13) (tgt := 24) dX10_rows_13 (by decide) (fun hc => ?_) (fun hc => ?_)
    · rw [if_pos hc] at hf
      refine z_iconst (pc := 24) dX10_rows_24 ki_n1 ?_
      obtain rfl := Option.some.inj hf
      rw [h0 _ hK]
      exact z_iret dX10_rows_25 rfl rfl
    · rw [if_neg hc] at hf
      refine z_iload_n (pc := 16) (i := 2) (j := 2) dX10_rows_16 rfl rfl ?_
      refine z_iload_n (pc := 17) (i := 1) (j := 1) dX10_rows_17 rfl rfl ?_
      obtain ⟨q2, hq2, hf⟩ := Option.bind_eq_some_iff.mp hf
      refine z_oSi (pc := 18) (as := [.int v1]) (rest := [.int v2]) dX10_rows_18 lm_RX10_186 mf_J6_bitCount_0f7a4 ms_J6_bitCount_0f7a4 rfl rfl (Nat.le_of_ble_eq_true rfl) (c_J6_bitCount_0f7a4 e (by omega) v1 q1.2 hq2) ?_
      refine z_icmp_lt (pc := 21) (tgt := 26) dX10_rows_21 (by decide) (fun hc => ?_) (fun hc => ?_)
      · rw [if_pos hc] at hf
        refine z_aload_n (pc := 26) (i := 0) (j := 0) dX10_rows_26 rfl rfl ?_
        refine z_ogetR (pc := 27) dX10_rows_27 lf_RX10_44 sh_0 rfl rfl rfl ?_
        obtain ⟨q3, hq3, hf⟩ := Option.bind_eq_some_iff.mp hf
        refine z_oVv (pc := 30) (as := []) (rest := []) dX10_rows_30 lm_RX10_191 mf_X3_fitAll mi_X3_fitAll mv_X3_fitAll rc_18 rfl rfl (Nat.le_of_ble_eq_true rfl) (c_X3_fitAll e (by omega) q2.2 hq3) ?_
        refine z_aload_n (pc := 33) (i := 0) (j := 0) dX10_rows_33 rfl rfl ?_
        refine z_ogetR (pc := 34) dX10_rows_34 lf_RX10_44 sh_0 rfl rfl rfl ?_
        refine z_iload_n (pc := 37) (i := 1) (j := 1) dX10_rows_37 rfl rfl ?_
        refine z_iload_n (pc := 38) (i := 2) (j := 2) dX10_rows_38 rfl rfl ?_
        obtain ⟨q4, hq4, hf⟩ := Option.bind_eq_some_iff.mp hf
        refine z_oVi (pc := 39) (as := [.int v1, .int v2]) (rest := []) dX10_rows_39 lm_RX10_194 mf_X3_answer mi_X3_answer mv_X3_answer rc_18 rfl rfl (Nat.le_of_ble_eq_true rfl) (c_X3_answer e (by omega) v1 v2 q3.2 hq4) ?_
        obtain rfl := Option.some.inj hf
        rw [h0 _ hK]
        exact z_iret dX10_rows_42 rfl rfl
      · rw [if_neg hc] at hf
        refine z_iconst (pc := 24) dX10_rows_24 ki_n1 ?_
        obtain rfl := Option.some.inj hf
        rw [h0 _ hK]
        exact z_iret dX10_rows_25 rfl rfl
set_option maxHeartbeats 4000000 in
set_option maxRecDepth 100000 in
theorem c_X10_rows (d : Nat) (hd : 127 ≤ d) (v1 : Int32) (v2 : Int32) (m : ej_M) {q : (Int32 × ej_M)} (hf : f_X10_rows v1 v2 m = some q) : ej_Ct yX10_rows cX10_rows 3 (some .int) d [.ref 0, .int v1, .int v2] (ej_sh, m) ((some (Value.int q.1), (ej_sh, q.2)) : Option Value × ej_H) := by
  obtain ⟨e, rfl⟩ : ∃ e, d = e + 1 := ⟨d - 1, by omega⟩
  exact z_met (by decide +kernel) (Nat.le_of_ble_eq_true rfl) (b_X10_rows e (by omega) v1 v2 m (K := fun z => ((some (Value.int q.1), (ej_sh, q.2)) : Option Value × ej_H) = (some (Value.int z.1), (ej_sh, z.2))) hf rfl (fun _ h => h))
def f_X11_bitsOf_L4b (v1 : Int32) (v2 : Int32) (m : ej_M) : Option ((Int32 × Int32 × ej_M) ⊕ (Int32 × ej_M)) :=
  if v2 = 0 then
    some (Sum.inr (v1, m))
  else
    some (Sum.inl ((v1 + 1), (v2 &&& (v2 - 1)), m))
set_option maxHeartbeats 4000000 in
set_option maxRecDepth 100000 in
theorem b_X11_bitsOf_L4b (d : Nat) (v1 : Int32) (v2 : Int32) (m : ej_M) {x : ((Int32 × Int32 × ej_M) ⊕ (Int32 × ej_M))} {res : Option Value × ej_H} {K : ((Int32 × Int32 × ej_M) ⊕ (Int32 × ej_M)) → Prop} (hf : f_X11_bitsOf_L4b v1 v2 m = some x) (hK : K x) (h1 : ∀ q : (Int32 × Int32 × ej_M), K (Sum.inl q) → ej_Z cX11_bitsOf 3 (some .int) RX11 "bitsOf" d 4 [(1, .int q.1), (2, .int q.2.1)] [] (ej_sh, q.2.2) res) (h0 : ∀ q : (Int32 × ej_M), K (Sum.inr q) → res = (some (Value.int q.1), (ej_sh, q.2))) : ej_Z cX11_bitsOf 3 (some .int) RX11 "bitsOf" d 4 [(1, .int v1), (2, .int v2)] [] (ej_sh, m) res := by
  unfold f_X11_bitsOf_L4b at hf
  refine z_iload_n (pc := 4) (i := 2) (j := 1) dX11_bitsOf_4 rfl rfl ?_
  refine z_if_eq (pc := 5) (tgt := 20) dX11_bitsOf_5 (by decide) (fun hc => ?_) (fun hc => ?_)
  · rw [if_pos hc] at hf
    refine z_iload_n (pc := 20) (i := 1) (j := 0) dX11_bitsOf_20 rfl rfl ?_
    obtain rfl := Option.some.inj hf
    rw [h0 _ hK]
    exact z_iret dX11_bitsOf_21 rfl rfl
  · rw [if_neg hc] at hf
    refine z_iinc (pc := 8) (j := 0) (ls' := [(1, .int (v1 + 1)), (2, .int v2)]) dX11_bitsOf_8 rfl ki_1 (Nat.le_of_ble_eq_true rfl) rfl ?_
    refine z_iload_n (pc := 11) (i := 2) (j := 1) dX11_bitsOf_11 rfl rfl ?_
    refine z_iload_n (pc := 12) (i := 2) (j := 1) dX11_bitsOf_12 rfl rfl ?_
    refine z_iconst (pc := 13) dX11_bitsOf_13 ki_1 ?_
    refine z_isub (pc := 14) dX11_bitsOf_14 ?_
    refine z_iand (pc := 15) dX11_bitsOf_15 ?_
    refine z_istore_n (pc := 16) (i := 2) (ls' := [(2, .int (v2 &&& (v2 - 1))), (1, .int (v1 + 1))]) dX11_bitsOf_16 rfl (Nat.le_of_ble_eq_true rfl) rfl ?_
    refine z_goto (pc := 17) (tgt := 4) dX11_bitsOf_17 (by decide) ?_
    obtain rfl := Option.some.inj hf
    exact z_pick (ls' := [(1, .int (v1 + 1)), (2, .int (v2 &&& (v2 - 1)))]) [1, 0] rfl (h1 ((v1 + 1), (v2 &&& (v2 - 1)), m) hK)
def f_X11_bitsOf_L4 (v1 : Int32) (v2 : Int32) (m : ej_M) : Option (Int32 × ej_M) := oj_loop (fun q : (Int32 × Int32 × ej_M) => f_X11_bitsOf_L4b q.1 q.2.1 q.2.2) oj_FU (v1, v2, m)
set_option maxHeartbeats 4000000 in
set_option maxRecDepth 100000 in
theorem b_X11_bitsOf_L4 (d : Nat) (v1 : Int32) (v2 : Int32) (m : ej_M) {x : (Int32 × ej_M)} {res : Option Value × ej_H} {K : (Int32 × ej_M) → Prop} (hf : f_X11_bitsOf_L4 v1 v2 m = some x) (hK : K x) (h0 : ∀ q : (Int32 × ej_M), K q → res = (some (Value.int q.1), (ej_sh, q.2))) : ej_Z cX11_bitsOf 3 (some .int) RX11 "bitsOf" d 4 [(1, .int v1), (2, .int v2)] [] (ej_sh, m) res :=
  oj_loop_Z (body := fun q : (Int32 × Int32 × ej_M) => f_X11_bitsOf_L4b q.1 q.2.1 q.2.2) (P := fun q : (Int32 × Int32 × ej_M) => ej_Z cX11_bitsOf 3 (some .int) RX11 "bitsOf" d 4 [(1, .int q.1), (2, .int q.2.1)] [] (ej_sh, q.2.2) res) (K := K) (fun s x hb hl hr => b_X11_bitsOf_L4b d  s.1 s.2.1 s.2.2 (K := fun x => (∀ s' : (Int32 × Int32 × ej_M), x = Sum.inl s' → ej_Z cX11_bitsOf 3 (some .int) RX11 "bitsOf" d 4 [(1, .int s'.1), (2, .int s'.2.1)] [] (ej_sh, s'.2.2) res) ∧ ∀ e, x = Sum.inr e → K e) hb ⟨hl, hr⟩ (fun q hq => hq.1 q rfl) (fun q hq => h0 q (hq.2 _ rfl))) oj_FU (v1, v2, m) x hf hK
def f_X11_bitsOf (v0 : Int32) (m : ej_M) : Option (Int32 × ej_M) :=
  f_X11_bitsOf_L4 0 v0 m
set_option maxHeartbeats 4000000 in
set_option maxRecDepth 100000 in
theorem b_X11_bitsOf (d : Nat) (v0 : Int32) (m : ej_M) {x : (Int32 × ej_M)} {res : Option Value × ej_H} {K : (Int32 × ej_M) → Prop} (hf : f_X11_bitsOf v0 m = some x) (hK : K x) (h0 : ∀ q : (Int32 × ej_M), K q → res = (some (Value.int q.1), (ej_sh, q.2))) : ej_Z cX11_bitsOf 3 (some .int) RX11 "bitsOf" d 0 [(0, .int v0)] [] (ej_sh, m) res := by
  unfold f_X11_bitsOf at hf
  refine z_iconst (pc := 0) dX11_bitsOf_0 ki_0 ?_
  refine z_istore_n (pc := 1) (i := 1) (ls' := [(1, .int 0), (0, .int v0)]) dX11_bitsOf_1 rfl (Nat.le_of_ble_eq_true rfl) rfl ?_
  refine z_iload_n (pc := 2) (i := 0) (j := 1) dX11_bitsOf_2 rfl rfl ?_
  refine z_istore_n (pc := 3) (i := 2) (ls' := [(2, .int v0), (1, .int 0), (0, .int v0)]) dX11_bitsOf_3 rfl (Nat.le_of_ble_eq_true rfl) rfl ?_
  exact z_pick [1, 0] rfl (b_X11_bitsOf_L4 d 0 v0 m (K := K) hf hK  h0)
set_option maxHeartbeats 4000000 in
set_option maxRecDepth 100000 in
theorem c_X11_bitsOf (d : Nat) (hd : 0 ≤ d) (v0 : Int32) (m : ej_M) {q : (Int32 × ej_M)} (hf : f_X11_bitsOf v0 m = some q) : ej_Ct yX11_bitsOf cX11_bitsOf 3 (some .int) d [.int v0] (ej_sh, m) ((some (Value.int q.1), (ej_sh, q.2)) : Option Value × ej_H) := by
  exact z_met (by decide +kernel) (Nat.le_of_ble_eq_true rfl) (b_X11_bitsOf d v0 m (K := fun z => ((some (Value.int q.1), (ej_sh, q.2)) : Option Value × ej_H) = (some (Value.int z.1), (ej_sh, z.2))) hf rfl (fun _ h => h))
def f_X11_isSet (v1 : Int32) (m : ej_M) : Option (Int32 × ej_M) :=
  (f_X11_in v1 0 ((1 <<< ((m.1 41 1) &&& 31)) - 1) m).bind fun q1 =>
  oj_rz q1.1 q1.2
set_option maxHeartbeats 4000000 in
set_option maxRecDepth 100000 in
theorem b_X11_isSet (e : Nat) (hd : 0 ≤ e) (v1 : Int32) (m : ej_M) {x : (Int32 × ej_M)} {res : Option Value × ej_H} {K : (Int32 × ej_M) → Prop} (hf : f_X11_isSet v1 m = some x) (hK : K x) (h0 : ∀ q : (Int32 × ej_M), K q → res = (some (Value.int q.1), (ej_sh, q.2))) : ej_Z cX11_isSet 2 (some .boolean) RX11 "isSet" (e + 1) 0 [(0, .ref 41), (1, .int v1)] [] (ej_sh, m) res := by
  unfold f_X11_isSet at hf
  refine z_iload_n (pc := 0) (i := 1) (j := 1) dX11_isSet_0 rfl rfl ?_
  refine z_iconst (pc := 1) dX11_isSet_1 ki_0 ?_
  refine z_iconst (pc := 2) dX11_isSet_2 ki_1 ?_
  refine z_aload_n (pc := 3) (i := 0) (j := 0) dX11_isSet_3 rfl rfl ?_
  refine z_ogetI (pc := 4) dX11_isSet_4 lf_RX11_101 sh_41 rfl rfl ?_
  refine z_ishl (pc := 7) dX11_isSet_7 ?_
  refine z_iconst (pc := 8) dX11_isSet_8 ki_1 ?_
  refine z_isub (pc := 9) dX11_isSet_9 ?_
  obtain ⟨q1, hq1, hf⟩ := Option.bind_eq_some_iff.mp hf
  refine z_oSi (pc := 10) (as := [.int v1, .int 0, .int ((1 <<< ((m.1 41 1) &&& 31)) - 1)]) (rest := []) dX11_isSet_10 lm_RX11_104 mf_X11_in ms_X11_in rfl rfl (Nat.le_of_ble_eq_true rfl) (c_X11_in e (by omega) v1 0 ((1 <<< ((m.1 41 1) &&& 31)) - 1) m hq1) ?_
  rw [h0 _ hK]
  exact z_oretz dX11_isSet_13 rfl hf
set_option maxHeartbeats 4000000 in
set_option maxRecDepth 100000 in
theorem c_X11_isSet (d : Nat) (hd : 1 ≤ d) (v1 : Int32) (m : ej_M) {q : (Int32 × ej_M)} (hf : f_X11_isSet v1 m = some q) : ej_Ct yX11_isSet cX11_isSet 2 (some .boolean) d [.ref 41, .int v1] (ej_sh, m) ((some (Value.int q.1), (ej_sh, q.2)) : Option Value × ej_H) := by
  obtain ⟨e, rfl⟩ : ∃ e, d = e + 1 := ⟨d - 1, by omega⟩
  exact z_met (by decide +kernel) (Nat.le_of_ble_eq_true rfl) (b_X11_isSet e (by omega) v1 m (K := fun z => ((some (Value.int q.1), (ej_sh, q.2)) : Option Value × ej_H) = (some (Value.int z.1), (ej_sh, z.2))) hf rfl (fun _ h => h))
def f_X11_fitsBook (v1 : Int32) (v2 : Int32) (m : ej_M) : Option (Int32 × ej_M) :=
  if (m.1 41 32) < 0 then
    some (1, m)
  else
    (oj_ld 0 m 67 (m.1 41 32)).bind fun w1 =>
    if v1 < w1 then
      (oj_ll m 68 ((60 * (m.1 41 32)) + v1)).bind fun w2 =>
      if (lg_cmp w2 (-1 : Int64)) = 0 then
        some (1, m)
      else
        if (lg_cmp w2 (Int32.toInt64 v2)) = 0 then
          some (1, m)
        else
          some (0, m)
    else
      some (1, m)
set_option maxHeartbeats 4000000 in
set_option maxRecDepth 100000 in
theorem b_X11_fitsBook (d : Nat) (v1 : Int32) (v2 : Int32) (m : ej_M) {x : (Int32 × ej_M)} {res : Option Value × ej_H} {K : (Int32 × ej_M) → Prop} (hf : f_X11_fitsBook v1 v2 m = some x) (hK : K x) (h0 : ∀ q : (Int32 × ej_M), K q → res = (some (Value.int q.1), (ej_sh, q.2))) : ej_Z cX11_fitsBook 5 (some .boolean) RX11 "fitsBook" d 0 [(0, .ref 41), (1, .int v1), (2, .int v2)] [] (ej_sh, m) res := by
  unfold f_X11_fitsBook at hf
  refine z_aload_n (pc := 0) (i := 0) (j := 0) dX11_fitsBook_0 rfl rfl ?_
  refine z_ogetI (pc := 1) dX11_fitsBook_1 lf_RX11_258 sh_41 rfl rfl ?_
  refine z_if_lt (pc := 4) (tgt := 20) dX11_fitsBook_4 (by decide) (fun hc => ?_) (fun hc => ?_)
  · rw [if_pos hc] at hf
    refine z_iconst (pc := 20) dX11_fitsBook_20 ki_1 ?_
    obtain rfl := Option.some.inj hf
    rw [h0 _ hK]
    exact z_iret dX11_fitsBook_21 rfl rfl
  · rw [if_neg hc] at hf
    refine z_iload_n (pc := 7) (i := 1) (j := 1) dX11_fitsBook_7 rfl rfl ?_
    refine z_aload_n (pc := 8) (i := 0) (j := 0) dX11_fitsBook_8 rfl rfl ?_
    refine z_ogetR (pc := 9) dX11_fitsBook_9 lf_RX11_87 sh_41 rfl rfl rfl ?_
    refine z_aload_n (pc := 12) (i := 0) (j := 0) dX11_fitsBook_12 rfl rfl ?_
    refine z_ogetI (pc := 13) dX11_fitsBook_13 lf_RX11_258 sh_41 rfl rfl ?_
    obtain ⟨w1, hw1, hf⟩ := Option.bind_eq_some_iff.mp hf
    refine z_oiald (pc := 16) dX11_fitsBook_16 hw1 ?_
    refine z_icmp_lt (pc := 17) (tgt := 22) dX11_fitsBook_17 (by decide) (fun hc => ?_) (fun hc => ?_)
    · rw [if_pos hc] at hf
      refine z_aload_n (pc := 22) (i := 0) (j := 0) dX11_fitsBook_22 rfl rfl ?_
      refine z_ogetR (pc := 23) dX11_fitsBook_23 lf_RX11_90 sh_41 rfl rfl rfl ?_
      refine z_bipush (pc := 26) dX11_fitsBook_26 kb_60 ?_
      refine z_aload_n (pc := 28) (i := 0) (j := 0) dX11_fitsBook_28 rfl rfl ?_
      refine z_ogetI (pc := 29) dX11_fitsBook_29 lf_RX11_258 sh_41 rfl rfl ?_
      refine z_imul (pc := 32) dX11_fitsBook_32 ?_
      refine z_iload_n (pc := 33) (i := 1) (j := 1) dX11_fitsBook_33 rfl rfl ?_
      refine z_iadd (pc := 34) dX11_fitsBook_34 ?_
      obtain ⟨w2, hw2, hf⟩ := Option.bind_eq_some_iff.mp hf
      refine z_olald (pc := 35) dX11_fitsBook_35 hw2 ?_
      refine z_lstore_n (pc := 36) (i := 3) (ls' := [(3, .long w2), (0, .ref 41), (1, .int v1), (2, .int v2)]) dX11_fitsBook_36 rfl (Nat.le_of_ble_eq_true rfl) rfl ?_
      refine z_lload_n (pc := 37) (i := 3) (j := 0) dX11_fitsBook_37 rfl rfl ?_
      refine z_ldc2 (pc := 38) dX11_fitsBook_38 lc_RX11_261 ?_
      refine z_lcmp (pc := 41) dX11_fitsBook_41 ?_
      refine z_if_eq (pc := 42) (tgt := 52) dX11_fitsBook_42 (by decide) (fun hc => ?_) (fun hc => ?_)
      · rw [if_pos hc] at hf
        refine z_iconst (pc := 52) dX11_fitsBook_52 ki_1 ?_
        refine z_goto (pc := 53) (tgt := 57) dX11_fitsBook_53 (by decide) ?_
        obtain rfl := Option.some.inj hf
        rw [h0 _ hK]
        exact z_iret dX11_fitsBook_57 rfl rfl
      · rw [if_neg hc] at hf
        refine z_lload_n (pc := 45) (i := 3) (j := 0) dX11_fitsBook_45 rfl rfl ?_
        refine z_iload_n (pc := 46) (i := 2) (j := 3) dX11_fitsBook_46 rfl rfl ?_
        refine z_i2l (pc := 47) dX11_fitsBook_47 ?_
        refine z_lcmp (pc := 48) dX11_fitsBook_48 ?_
        refine z_if_ne (pc := 49) (tgt := 56) dX11_fitsBook_49 (by decide) (fun hc => ?_) (fun hc => ?_)
        · rw [if_neg hc] at hf
          refine z_iconst (pc := 56) dX11_fitsBook_56 ki_0 ?_
          obtain rfl := Option.some.inj hf
          rw [h0 _ hK]
          exact z_iret dX11_fitsBook_57 rfl rfl
        · rw [if_pos hc] at hf
          refine z_iconst (pc := 52) dX11_fitsBook_52 ki_1 ?_
          refine z_goto (pc := 53) (tgt := 57) dX11_fitsBook_53 (by decide) ?_
          obtain rfl := Option.some.inj hf
          rw [h0 _ hK]
          exact z_iret dX11_fitsBook_57 rfl rfl
    · rw [if_neg hc] at hf
      refine z_iconst (pc := 20) dX11_fitsBook_20 ki_1 ?_
      obtain rfl := Option.some.inj hf
      rw [h0 _ hK]
      exact z_iret dX11_fitsBook_21 rfl rfl
set_option maxHeartbeats 4000000 in
set_option maxRecDepth 100000 in
theorem c_X11_fitsBook (d : Nat) (hd : 0 ≤ d) (v1 : Int32) (v2 : Int32) (m : ej_M) {q : (Int32 × ej_M)} (hf : f_X11_fitsBook v1 v2 m = some q) : ej_Ct yX11_fitsBook cX11_fitsBook 5 (some .boolean) d [.ref 41, .int v1, .int v2] (ej_sh, m) ((some (Value.int q.1), (ej_sh, q.2)) : Option Value × ej_H) := by
  exact z_met (by decide +kernel) (Nat.le_of_ble_eq_true rfl) (b_X11_fitsBook d v1 v2 m (K := fun z => ((some (Value.int q.1), (ej_sh, q.2)) : Option Value × ej_H) = (some (Value.int z.1), (ej_sh, z.2))) hf rfl (fun _ h => h))
