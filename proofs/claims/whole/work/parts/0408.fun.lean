def f_X11_makeUp_L21b (v1 : Int32) (v2 : Int32) (v3 : Int32) (m : ej_M) : Option ((Int32 × ej_M) ⊕ ((Int32 × ej_M) ⊕ (Int32 × ej_M))) :=
  if (m.1 41 4) < v3 then
    some (Sum.inr (Sum.inl ((v2 + 1), m)))
  else
    (f_X11_isMadeUp v2 v3 m).bind fun q1 =>
    if q1.1 = 0 then
      some (Sum.inl ((v3 + 1), q1.2))
    else
      if v1 = 0 then
        some (Sum.inr (Sum.inr (v2, q1.2)))
      else
        some (Sum.inr (Sum.inr (v3, q1.2)))
set_option maxHeartbeats 4000000 in
set_option maxRecDepth 100000 in
theorem b_X11_makeUp_L21b (e : Nat) (hd : 5 ≤ e) (v1 : Int32) (v2 : Int32) (v3 : Int32) (m : ej_M) {x : ((Int32 × ej_M) ⊕ ((Int32 × ej_M) ⊕ (Int32 × ej_M)))} {res : Option Value × ej_H} {K : ((Int32 × ej_M) ⊕ ((Int32 × ej_M) ⊕ (Int32 × ej_M))) → Prop} (hf : f_X11_makeUp_L21b v1 v2 v3 m = some x) (hK : K x) (h1 : ∀ q : (Int32 × ej_M), K (Sum.inl q) → ej_Z cX11_makeUp 4 (some .int) RX11 "makeUp" (e + 1) 21 [(0, .ref 41), (1, .int v1), (2, .int v2), (3, .int q.1)] [] (ej_sh, q.2) res) (h2 : ∀ q : (Int32 × ej_M), K (Sum.inr (Sum.inl q)) → ej_Z cX11_makeUp 4 (some .int) RX11 "makeUp" (e + 1) 13 [(0, .ref 41), (1, .int v1), (2, .int q.1)] [] (ej_sh, q.2) res) (h0 : ∀ q : (Int32 × ej_M), K (Sum.inr (Sum.inr q)) → res = (some (Value.int q.1), (ej_sh, q.2))) : ej_Z cX11_makeUp 4 (some .int) RX11 "makeUp" (e + 1) 21 [(0, .ref 41), (1, .int v1), (2, .int v2), (3, .int v3)] [] (ej_sh, m) res := by
  unfold f_X11_makeUp_L21b at hf
  refine z_iload_n (pc := 21) (i := 3) (j := 3) dX11_makeUp_21 rfl rfl ?_
  refine z_aload_n (pc := 22) (i := 0) (j := 0) dX11_makeUp_22 rfl rfl ?_
  refine z_ogetI (pc := 23) dX11_makeUp_23 lf_RX11_108 sh_41 rfl rfl ?_
  refine z_icmp_gt (pc := 26) (tgt := 54) dX11_makeUp_26 (by decide) (fun hc => ?_) (fun hc => ?_)
  · rw [if_pos hc] at hf
    refine z_iinc (pc := 54) (j := 2) (ls' := [(2, .int (v2 + 1)), (0, .ref 41), (1, .int v1), (3, .int v3)]) dX11_makeUp_54 rfl ki_1 (Nat.le_of_ble_eq_true rfl) rfl ?_
    refine z_goto (pc := 57) (tgt := 13) dX11_makeUp_57 (by decide) ?_
    obtain rfl := Option.some.inj hf
    exact z_pick (ls' := [(0, .ref 41), (1, .int v1), (2, .int (v2 + 1))]) [1, 2, 0] rfl (h2 ((v2 + 1), m) hK)
  · rw [if_neg hc] at hf
    refine z_aload_n (pc := 29) (i := 0) (j := 0) dX11_makeUp_29 rfl rfl ?_
    refine z_iload_n (pc := 30) (i := 2) (j := 2) dX11_makeUp_30 rfl rfl ?_
    refine z_iload_n (pc := 31) (i := 3) (j := 3) dX11_makeUp_31 rfl rfl ?_
    obtain ⟨q1, hq1, hf⟩ := Option.bind_eq_some_iff.mp hf
    refine z_oVi (pc := 32) (as := [.int v2, .int v3]) (rest := []) dX11_makeUp_32 lm_RX11_288 mf_X11_isMadeUp mi_X11_isMadeUp mv_X11_isMadeUp rc_41 rfl rfl (Nat.le_of_ble_eq_true rfl) (c_X11_isMadeUp e (by omega) v2 v3 m hq1) ?_
    refine z_if_eq (pc := 35) (tgt := 48) dX11_makeUp_35 (by decide) (fun hc => ?_) (fun hc => ?_)
    · rw [if_pos hc] at hf
      refine z_iinc (pc := 48) (j := 3) (ls' := [(3, .int (v3 + 1)), (0, .ref 41), (1, .int v1), (2, .int v2)]) dX11_makeUp_48 rfl ki_1 (Nat.le_of_ble_eq_true rfl) rfl ?_
      refine z_goto (pc := 51) (tgt := 21) dX11_makeUp_51 (by decide) ?_
      obtain rfl := Option.some.inj hf
      exact z_pick (ls' := [(0, .ref 41), (1, .int v1), (2, .int v2), (3, .int (v3 + 1))]) [1, 2, 3, 0] rfl (h1 ((v3 + 1), q1.2) hK)
    · rw [if_neg hc] at hf
      refine z_iload_n (pc := 38) (i := 1) (j := 1) dX11_makeUp_38 rfl rfl ?_
      refine z_if_ne (pc := 39) (tgt := 46) dX11_makeUp_39 (by decide) (fun hc => ?_) (fun hc => ?_)
      · rw [if_neg hc] at hf
        refine z_iload_n (pc := 46) (i := 3) (j := 3) dX11_makeUp_46 rfl rfl ?_
        obtain rfl := Option.some.inj hf
        rw [h0 _ hK]
        exact z_iret dX11_makeUp_47 rfl rfl
      · rw [if_pos hc] at hf
        refine z_iload_n (pc := 42) (i := 2) (j := 2) dX11_makeUp_42 rfl rfl ?_
        refine z_goto (pc := 43) (tgt := 47) dX11_makeUp_43 (by decide) ?_
        obtain rfl := Option.some.inj hf
        rw [h0 _ hK]
        exact z_iret dX11_makeUp_47 rfl rfl
def f_X11_makeUp_L21 (v1 : Int32) (v2 : Int32) (v3 : Int32) (m : ej_M) : Option ((Int32 × ej_M) ⊕ (Int32 × ej_M)) := oj_loop (fun q : (Int32 × ej_M) => f_X11_makeUp_L21b v1 v2 q.1 q.2) oj_FU (v3, m)
set_option maxHeartbeats 4000000 in
set_option maxRecDepth 100000 in
theorem b_X11_makeUp_L21 (e : Nat) (hd : 5 ≤ e) (v1 : Int32) (v2 : Int32) (v3 : Int32) (m : ej_M) {x : ((Int32 × ej_M) ⊕ (Int32 × ej_M))} {res : Option Value × ej_H} {K : ((Int32 × ej_M) ⊕ (Int32 × ej_M)) → Prop} (hf : f_X11_makeUp_L21 v1 v2 v3 m = some x) (hK : K x) (h1 : ∀ q : (Int32 × ej_M), K (Sum.inl q) → ej_Z cX11_makeUp 4 (some .int) RX11 "makeUp" (e + 1) 13 [(0, .ref 41), (1, .int v1), (2, .int q.1)] [] (ej_sh, q.2) res) (h0 : ∀ q : (Int32 × ej_M), K (Sum.inr q) → res = (some (Value.int q.1), (ej_sh, q.2))) : ej_Z cX11_makeUp 4 (some .int) RX11 "makeUp" (e + 1) 21 [(0, .ref 41), (1, .int v1), (2, .int v2), (3, .int v3)] [] (ej_sh, m) res :=
  oj_loop_Z (body := fun q : (Int32 × ej_M) => f_X11_makeUp_L21b v1 v2 q.1 q.2) (P := fun q : (Int32 × ej_M) => ej_Z cX11_makeUp 4 (some .int) RX11 "makeUp" (e + 1) 21 [(0, .ref 41), (1, .int v1), (2, .int v2), (3, .int q.1)] [] (ej_sh, q.2) res) (K := K) (fun s x hb hl hr => b_X11_makeUp_L21b e hd v1 v2  s.1 s.2 (K := fun x => (∀ s' : (Int32 × ej_M), x = Sum.inl s' → ej_Z cX11_makeUp 4 (some .int) RX11 "makeUp" (e + 1) 21 [(0, .ref 41), (1, .int v1), (2, .int v2), (3, .int s'.1)] [] (ej_sh, s'.2) res) ∧ ∀ e, x = Sum.inr e → K e) hb ⟨hl, hr⟩ (fun q hq => hq.1 q rfl) (fun q hq => h1 q (hq.2 _ rfl)) (fun q hq => h0 q (hq.2 _ rfl))) oj_FU (v3, m) x hf hK
def f_X11_makeUp_L13b (v1 : Int32) (v2 : Int32) (m : ej_M) : Option ((Int32 × ej_M) ⊕ (Int32 × ej_M)) :=
  if 99 < v2 then
    some (Sum.inr ((-2), m))
  else
    f_X11_makeUp_L21 v1 v2 0 m
set_option maxHeartbeats 4000000 in
set_option maxRecDepth 100000 in
theorem b_X11_makeUp_L13b (e : Nat) (hd : 5 ≤ e) (v1 : Int32) (v2 : Int32) (m : ej_M) {x : ((Int32 × ej_M) ⊕ (Int32 × ej_M))} {res : Option Value × ej_H} {K : ((Int32 × ej_M) ⊕ (Int32 × ej_M)) → Prop} (hf : f_X11_makeUp_L13b v1 v2 m = some x) (hK : K x) (h1 : ∀ q : (Int32 × ej_M), K (Sum.inl q) → ej_Z cX11_makeUp 4 (some .int) RX11 "makeUp" (e + 1) 13 [(0, .ref 41), (1, .int v1), (2, .int q.1)] [] (ej_sh, q.2) res) (h0 : ∀ q : (Int32 × ej_M), K (Sum.inr q) → res = (some (Value.int q.1), (ej_sh, q.2))) : ej_Z cX11_makeUp 4 (some .int) RX11 "makeUp" (e + 1) 13 [(0, .ref 41), (1, .int v1), (2, .int v2)] [] (ej_sh, m) res := by
  unfold f_X11_makeUp_L13b at hf
  refine z_iload_n (pc := 13) (i := 2) (j := 2) dX11_makeUp_13 rfl rfl ?_
  refine z_bipush (pc := 14) dX11_makeUp_14 kb_99 ?_
  refine z_icmp_gt (pc := 16) (tgt := 60) dX11_makeUp_16 (by decide) (fun hc => ?_) (fun hc => ?_)
  · rw [if_pos hc] at hf
    refine z_bipush (pc := 60) dX11_makeUp_60 kb_n2 ?_
    obtain rfl := Option.some.inj hf
    rw [h0 _ hK]
    exact z_iret dX11_makeUp_62 rfl rfl
  · rw [if_neg hc] at hf
    refine z_iconst (pc := 19) dX11_makeUp_19 ki_0 ?_
    refine z_istore_n (pc := 20) (i := 3) (ls' := [(3, .int 0), (0, .ref 41), (1, .int v1), (2, .int v2)]) dX11_makeUp_20 rfl (Nat.le_of_ble_eq_true rfl) rfl ?_
    exact z_pick [1, 2, 3, 0] rfl (b_X11_makeUp_L21 e hd v1 v2 0 m (K := K) hf hK h1 h0)
def f_X11_makeUp_L13 (v1 : Int32) (v2 : Int32) (m : ej_M) : Option (Int32 × ej_M) := oj_loop (fun q : (Int32 × ej_M) => f_X11_makeUp_L13b v1 q.1 q.2) oj_FU (v2, m)
set_option maxHeartbeats 4000000 in
set_option maxRecDepth 100000 in
theorem b_X11_makeUp_L13 (e : Nat) (hd : 5 ≤ e) (v1 : Int32) (v2 : Int32) (m : ej_M) {x : (Int32 × ej_M)} {res : Option Value × ej_H} {K : (Int32 × ej_M) → Prop} (hf : f_X11_makeUp_L13 v1 v2 m = some x) (hK : K x) (h0 : ∀ q : (Int32 × ej_M), K q → res = (some (Value.int q.1), (ej_sh, q.2))) : ej_Z cX11_makeUp 4 (some .int) RX11 "makeUp" (e + 1) 13 [(0, .ref 41), (1, .int v1), (2, .int v2)] [] (ej_sh, m) res :=
  oj_loop_Z (body := fun q : (Int32 × ej_M) => f_X11_makeUp_L13b v1 q.1 q.2) (P := fun q : (Int32 × ej_M) => ej_Z cX11_makeUp 4 (some .int) RX11 "makeUp" (e + 1) 13 [(0, .ref 41), (1, .int v1), (2, .int q.1)] [] (ej_sh, q.2) res) (K := K) (fun s x hb hl hr => b_X11_makeUp_L13b e hd v1  s.1 s.2 (K := fun x => (∀ s' : (Int32 × ej_M), x = Sum.inl s' → ej_Z cX11_makeUp 4 (some .int) RX11 "makeUp" (e + 1) 13 [(0, .ref 41), (1, .int v1), (2, .int s'.1)] [] (ej_sh, s'.2) res) ∧ ∀ e, x = Sum.inr e → K e) hb ⟨hl, hr⟩ (fun q hq => hq.1 q rfl) (fun q hq => h0 q (hq.2 _ rfl))) oj_FU (v2, m) x hf hK
def f_X11_makeUp (v1 : Int32) (m : ej_M) : Option (Int32 × ej_M) :=
  (f_X11_in v1 0 1 m).bind fun q1 =>
  if q1.1 = 0 then
    some ((-1), q1.2)
  else
    f_X11_makeUp_L13 v1 1 q1.2
set_option maxHeartbeats 4000000 in
set_option maxRecDepth 100000 in
theorem b_X11_makeUp (e : Nat) (hd : 5 ≤ e) (v1 : Int32) (m : ej_M) {x : (Int32 × ej_M)} {res : Option Value × ej_H} {K : (Int32 × ej_M) → Prop} (hf : f_X11_makeUp v1 m = some x) (hK : K x) (h0 : ∀ q : (Int32 × ej_M), K q → res = (some (Value.int q.1), (ej_sh, q.2))) : ej_Z cX11_makeUp 4 (some .int) RX11 "makeUp" (e + 1) 0 [(0, .ref 41), (1, .int v1)] [] (ej_sh, m) res := by
  unfold f_X11_makeUp at hf
  refine z_iload_n (pc := 0) (i := 1) (j := 1) dX11_makeUp_0 rfl rfl ?_
  refine z_iconst (pc := 1) dX11_makeUp_1 ki_0 ?_
  refine z_iconst (pc := 2) dX11_makeUp_2 ki_1 ?_
  obtain ⟨q1, hq1, hf⟩ := Option.bind_eq_some_iff.mp hf
  refine z_oSi (pc := 3) (as := [.int v1, .int 0, .int 1]) (rest := []) dX11_makeUp_3 lm_RX11_104 mf_X11_in ms_X11_in rfl rfl (Nat.le_of_ble_eq_true rfl) (c_X11_in e (by omega) v1 0 1 m hq1) ?_
  refine z_if_ne (pc := 6) (tgt := 11) dX11_makeUp_6 (by decide) (fun hc => ?_) (fun hc => ?_)
  · rw [if_neg hc] at hf
    refine z_iconst (pc := 11) dX11_makeUp_11 ki_1 ?_
    refine z_istore_n (pc := 12) (i := 2) (ls' := [(2, .int 1), (0, .ref 41), (1, .int v1)]) dX11_makeUp_12 rfl (Nat.le_of_ble_eq_true rfl) rfl ?_
    exact z_pick [1, 2, 0] rfl (b_X11_makeUp_L13 e hd v1 1 q1.2 (K := K) hf hK  h0)
  · rw [if_pos hc] at hf
    refine z_iconst (pc := 9) dX11_makeUp_9 ki_n1 ?_
    obtain rfl := Option.some.inj hf
    rw [h0 _ hK]
    exact z_iret dX11_makeUp_10 rfl rfl
set_option maxHeartbeats 4000000 in
set_option maxRecDepth 100000 in
theorem c_X11_makeUp (d : Nat) (hd : 6 ≤ d) (v1 : Int32) (m : ej_M) {q : (Int32 × ej_M)} (hf : f_X11_makeUp v1 m = some q) : ej_Ct yX11_makeUp cX11_makeUp 4 (some .int) d [.ref 41, .int v1] (ej_sh, m) ((some (Value.int q.1), (ej_sh, q.2)) : Option Value × ej_H) := by
  obtain ⟨e, rfl⟩ : ∃ e, d = e + 1 := ⟨d - 1, by omega⟩
  exact z_met (by decide +kernel) (Nat.le_of_ble_eq_true rfl) (b_X11_makeUp e (by omega) v1 m (K := fun z => ((some (Value.int q.1), (ej_sh, q.2)) : Option Value × ej_H) = (some (Value.int z.1), (ej_sh, z.2))) hf rfl (fun _ h => h))
def f_X7_setAtEnds_L31b (v1 : Int32) (v2 : Int32) (v3 : Int32) (v4 : Int32) (v5 : Int32) (m : ej_M) : Option ((Int32 × Int32 × Int32 × ej_M) ⊕ (Unit × ej_M)) :=
  if v1 ≤ v5 then
    some (Sum.inr ((), m))
  else
    if ((v2 >>> (v5 &&& 31)) &&& 1) = 1 then
      (f_X10_at 23 v5 m).bind fun q3 =>
      (f_X10_lay 24 (v4 + 1) q3.1 q3.2).bind fun q4 =>
      some (Sum.inl (v3, (v4 + 1), (v5 + 1), q4.2))
    else
      (f_X10_at 23 v5 m).bind fun q1 =>
      (f_X10_lay 24 (v3 + (-1)) q1.1 q1.2).bind fun q2 =>
      some (Sum.inl ((v3 + (-1)), v4, (v5 + 1), q2.2))
set_option maxHeartbeats 4000000 in
set_option maxRecDepth 100000 in
theorem b_X7_setAtEnds_L31b (e : Nat) (hd : 0 ≤ e) (v1 : Int32) (v2 : Int32) (v3 : Int32) (v4 : Int32) (v5 : Int32) (m : ej_M) {x : ((Int32 × Int32 × Int32 × ej_M) ⊕ (Unit × ej_M))} {res : Option Value × ej_H} {K : ((Int32 × Int32 × Int32 × ej_M) ⊕ (Unit × ej_M)) → Prop} (hf : f_X7_setAtEnds_L31b v1 v2 v3 v4 v5 m = some x) (hK : K x) (h1 : ∀ q : (Int32 × Int32 × Int32 × ej_M), K (Sum.inl q) → ej_Z cX7_setAtEnds 6 none RX7 "setAtEnds" (e + 1) 31 [(0, .ref 22), (1, .int v1), (2, .int v2), (3, .int q.1), (4, .int q.2.1), (5, .int q.2.2.1)] [] (ej_sh, q.2.2.2) res) (h0 : ∀ q : (Unit × ej_M), K (Sum.inr q) → res = (none, (ej_sh, q.2))) : ej_Z cX7_setAtEnds 6 none RX7 "setAtEnds" (e + 1) 31 [(0, .ref 22), (1, .int v1), (2, .int v2), (3, .int v3), (4, .int v4), (5, .int v5)] [] (ej_sh, m) res := by
  unfold f_X7_setAtEnds_L31b at hf
  refine z_iload (pc := 31) (i := 5) (j := 5) dX7_setAtEnds_31 rfl ?_
  refine z_iload_n (pc := 33) (i := 1) (j := 1) dX7_setAtEnds_33 rfl rfl ?_
  refine z_icmp_ge (pc := 34) (tgt := 97) dX7_setAtEnds_34 (by decide) (fun hc => ?_) (fun hc => ?_)
  · rw [if_pos hc] at hf
    obtain rfl := Option.some.inj hf
    rw [h0 _ hK]
    exact z_ret dX7_setAtEnds_97 rfl
  · rw [if_neg hc] at hf
    refine z_iload_n (pc := 37) (i := 2) (j := 2) dX7_setAtEnds_37 rfl rfl ?_
    refine z_iload (pc := 38) (i := 5) (j := 5) dX7_setAtEnds_38 rfl ?_
    refine z_ishr (pc := 40) dX7_setAtEnds_40 ?_
    refine z_iconst (pc := 41) dX7_setAtEnds_41 ki_1 ?_
    refine z_iand (pc := 42) dX7_setAtEnds_42 ?_
    refine z_iconst (pc := 43) dX7_setAtEnds_43 ki_1 ?_
    refine z_icmp_ne (pc := 44) (tgt := 71) dX7_setAtEnds_44 (by decide) (fun hc => ?_) (fun hc => ?_)
    · rw [if_neg hc] at hf
      refine z_iinc (pc := 71) (j := 3) (ls' := [(3, .int (v3 + (-1))), (0, .ref 22), (1, .int v1), (2, .int v2), (4, .int v4), (5, .int v5)]) dX7_setAtEnds_71 rfl ki_n1 (Nat.le_of_ble_eq_true rfl) rfl ?_
      refine z_aload_n (pc := 74) (i := 0) (j := 1) dX7_setAtEnds_74 rfl rfl ?_
      refine z_ogetR (pc := 75) dX7_setAtEnds_75 lf_RX7_15 sh_22 rfl rfl rfl ?_
      refine z_iload_n (pc := 78) (i := 3) (j := 0) dX7_setAtEnds_78 rfl rfl ?_
      refine z_aload_n (pc := 79) (i := 0) (j := 1) dX7_setAtEnds_79 rfl rfl ?_
      refine z_ogetR (pc := 80) dX7_setAtEnds_80 lf_RX7_9 sh_22 rfl rfl rfl ?_
      refine z_iload (pc := 83) (i := 5) (j := 5) dX7_setAtEnds_83 rfl ?_
      obtain ⟨q1, hq1, hf⟩ := Option.bind_eq_some_iff.mp hf
      refine z_oSi (pc := 85) (as := [.ref 23, .int v5]) (rest := [.int (v3 + (-1)), .ref 24]) dX7_setAtEnds_85 lm_RX7_42 mf_X10_at ms_X10_at rfl rfl (Nat.le_of_ble_eq_true rfl) (c_X10_at e (by omega) 23 v5 m hq1) ?_
      obtain ⟨q2, hq2, hf⟩ := Option.bind_eq_some_iff.mp hf
      refine z_oSv (pc := 88) (as := [.ref 24, .int (v3 + (-1)), .int q1.1]) (rest := []) dX7_setAtEnds_88 lm_RX7_22 mf_X10_lay ms_X10_lay rfl rfl (Nat.le_of_ble_eq_true rfl) (c_X10_lay e (by omega) 24 (v3 + (-1)) q1.1 q1.2 hq2) ?_
      refine z_iinc (pc := 91) (j := 5) (ls' := [(5, .int (v5 + 1)), (3, .int (v3 + (-1))), (0, .ref 22), (1, .int v1), (2, .int v2), (4, .int v4)]) dX7_setAtEnds_91 rfl ki_1 (Nat.le_of_ble_eq_true rfl) rfl ?_
      refine z_goto (pc := 94) (tgt := 31) dX7_setAtEnds_94 (by decide) ?_
      obtain rfl := Option.some.inj hf
      exact z_pick (ls' := [(0, .ref 22), (1, .int v1), (2, .int v2), (3, .int (v3 + (-1))), (4, .int v4), (5, .int (v5 + 1))]) [2, 3, 4, 1, 5, 0] rfl (h1 ((v3 + (-1)), v4, (v5 + 1), q2.2) hK)
    · rw [if_pos hc] at hf
      refine z_iinc (pc := 47) (j := 4) (ls' := [(4, .int (v4 + 1)), (0, .ref 22), (1, .int v1), (2, .int v2), (3, .int v3), (5, .int v5)]) dX7_setAtEnds_47 rfl ki_1 (Nat.le_of_ble_eq_true rfl) rfl ?_
      refine z_aload_n (pc := 50) (i := 0) (j := 1) dX7_setAtEnds_50 rfl rfl ?_
      refine z_ogetR (pc := 51) dX7_setAtEnds_51 lf_RX7_15 sh_22 rfl rfl rfl ?_
      refine z_iload (pc := 54) (i := 4) (j := 0) dX7_setAtEnds_54 rfl ?_
      refine z_aload_n (pc := 56) (i := 0) (j := 1) dX7_setAtEnds_56 rfl rfl ?_
      refine z_ogetR (pc := 57) dX7_setAtEnds_57 lf_RX7_9 sh_22 rfl rfl rfl ?_
      refine z_iload (pc := 60) (i := 5) (j := 5) dX7_setAtEnds_60 rfl ?_
      obtain ⟨q3, hq3, hf⟩ := Option.bind_eq_some_iff.mp hf
      refine z_oSi (pc := 62) (as := [.ref 23, .int v5]) (rest := [.int (v4 + 1), .ref 24]) dX7_setAtEnds_62 lm_RX7_42 mf_X10_at ms_X10_at rfl rfl (Nat.le_of_ble_eq_true rfl) (c_X10_at e (by omega) 23 v5 m hq3) ?_
      obtain ⟨q4, hq4, hf⟩ := Option.bind_eq_some_iff.mp hf
      refine z_oSv (pc := 65) (as := [.ref 24, .int (v4 + 1), .int q3.1]) (rest := []) dX7_setAtEnds_65 lm_RX7_22 mf_X10_lay ms_X10_lay rfl rfl (Nat.le_of_ble_eq_true rfl) (c_X10_lay e (by omega) 24 (v4 + 1) q3.1 q3.2 hq4) ?_
      refine z_goto (pc := 68) (tgt := 91) dX7_setAtEnds_68 (by decide) ?_
      refine z_iinc (pc := 91) (j := 5) (ls' := [(5, .int (v5 + 1)), (4, .int (v4 + 1)), (0, .ref 22), (1, .int v1), (2, .int v2), (3, .int v3)]) dX7_setAtEnds_91 rfl ki_1 (Nat.le_of_ble_eq_true rfl) rfl ?_
      refine z_goto (pc := 94) (tgt := 31) dX7_setAtEnds_94 (by decide) ?_
      obtain rfl := Option.some.inj hf
      exact z_pick (ls' := [(0, .ref 22), (1, .int v1), (2, .int v2), (3, .int v3), (4, .int (v4 + 1)), (5, .int (v5 + 1))]) [2, 3, 4, 5, 1, 0] rfl (h1 (v3, (v4 + 1), (v5 + 1), q4.2) hK)
def f_X7_setAtEnds_L31 (v1 : Int32) (v2 : Int32) (v3 : Int32) (v4 : Int32) (v5 : Int32) (m : ej_M) : Option (Unit × ej_M) := oj_loop (fun q : (Int32 × Int32 × Int32 × ej_M) => f_X7_setAtEnds_L31b v1 v2 q.1 q.2.1 q.2.2.1 q.2.2.2) oj_FU (v3, v4, v5, m)
set_option maxHeartbeats 4000000 in
set_option maxRecDepth 100000 in
theorem b_X7_setAtEnds_L31 (e : Nat) (hd : 0 ≤ e) (v1 : Int32) (v2 : Int32) (v3 : Int32) (v4 : Int32) (v5 : Int32) (m : ej_M) {x : (Unit × ej_M)} {res : Option Value × ej_H} {K : (Unit × ej_M) → Prop} (hf : f_X7_setAtEnds_L31 v1 v2 v3 v4 v5 m = some x) (hK : K x) (h0 : ∀ q : (Unit × ej_M), K q → res = (none, (ej_sh, q.2))) : ej_Z cX7_setAtEnds 6 none RX7 "setAtEnds" (e + 1) 31 [(0, .ref 22), (1, .int v1), (2, .int v2), (3, .int v3), (4, .int v4), (5, .int v5)] [] (ej_sh, m) res :=
  oj_loop_Z (body := fun q : (Int32 × Int32 × Int32 × ej_M) => f_X7_setAtEnds_L31b v1 v2 q.1 q.2.1 q.2.2.1 q.2.2.2) (P := fun q : (Int32 × Int32 × Int32 × ej_M) => ej_Z cX7_setAtEnds 6 none RX7 "setAtEnds" (e + 1) 31 [(0, .ref 22), (1, .int v1), (2, .int v2), (3, .int q.1), (4, .int q.2.1), (5, .int q.2.2.1)] [] (ej_sh, q.2.2.2) res) (K := K) (fun s x hb hl hr => b_X7_setAtEnds_L31b e hd v1 v2  s.1 s.2.1 s.2.2.1 s.2.2.2 (K := fun x => (∀ s' : (Int32 × Int32 × Int32 × ej_M), x = Sum.inl s' → ej_Z cX7_setAtEnds 6 none RX7 "setAtEnds" (e + 1) 31 [(0, .ref 22), (1, .int v1), (2, .int v2), (3, .int s'.1), (4, .int s'.2.1), (5, .int s'.2.2.1)] [] (ej_sh, s'.2.2.2) res) ∧ ∀ e, x = Sum.inr e → K e) hb ⟨hl, hr⟩ (fun q hq => hq.1 q rfl) (fun q hq => h0 q (hq.2 _ rfl))) oj_FU (v3, v4, v5, m) x hf hK
def f_X7_setAtEnds (v1 : Int32) (v2 : Int32) (m : ej_M) : Option (Unit × ej_M) :=
  (f_J6_bitCount_0f7a4 v2 m).bind fun q1 =>
  (f_X10_at 23 0 q1.2).bind fun q2 =>
  (f_X10_lay 24 ((v1 - 1) - q1.1) q2.1 q2.2).bind fun q3 =>
  f_X7_setAtEnds_L31 v1 v2 ((v1 - 1) - q1.1) ((v1 - 1) - q1.1) 1 q3.2
set_option maxHeartbeats 4000000 in
set_option maxRecDepth 100000 in
theorem b_X7_setAtEnds (e : Nat) (hd : 0 ≤ e) (v1 : Int32) (v2 : Int32) (m : ej_M) {x : (Unit × ej_M)} {res : Option Value × ej_H} {K : (Unit × ej_M) → Prop} (hf : f_X7_setAtEnds v1 v2 m = some x) (hK : K x) (h0 : ∀ q : (Unit × ej_M), K q → res = (none, (ej_sh, q.2))) : ej_Z cX7_setAtEnds 6 none RX7 "setAtEnds" (e + 1) 0 [(0, .ref 22), (1, .int v1), (2, .int v2)] [] (ej_sh, m) res := by
  unfold f_X7_setAtEnds at hf
  refine z_iload_n (pc := 0) (i := 1) (j := 1) dX7_setAtEnds_0 rfl rfl ?_
  refine z_iconst (pc := 1) dX7_setAtEnds_1 ki_1 ?_
  refine z_isub (pc := 2) dX7_setAtEnds_2 ?_
  refine z_iload_n (pc := 3) (i := 2) (j := 2) dX7_setAtEnds_3 rfl rfl ?_
  obtain ⟨q1, hq1, hf⟩ := Option.bind_eq_some_iff.mp hf
  refine z_oSi (pc := 4) (as := [.int v2]) (rest := [.int (v1 - 1)]) dX7_setAtEnds_4 lm_RX7_36 mf_J6_bitCount_0f7a4 ms_J6_bitCount_0f7a4 rfl rfl (Nat.le_of_ble_eq_true rfl) (c_J6_bitCount_0f7a4 e (by omega) v2 m hq1) ?_
  refine z_isub (pc := 7) dX7_setAtEnds_7 ?_
  refine z_istore_n (pc := 8) (i := 3) (ls' := [(3, .int ((v1 - 1) - q1.1)), (0, .ref 22), (1, .int v1), (2, .int v2)]) dX7_setAtEnds_8 rfl (Nat.le_of_ble_eq_true rfl) rfl ?_
  refine z_iload_n (pc := 9) (i := 3) (j := 0) dX7_setAtEnds_9 rfl rfl ?_
  refine z_istore (pc := 10) (i := 4) (ls' := [(4, .int ((v1 - 1) - q1.1)), (3, .int ((v1 - 1) - q1.1)), (0, .ref 22), (1, .int v1), (2, .int v2)]) dX7_setAtEnds_10 (Nat.le_of_ble_eq_true rfl) rfl ?_
  refine z_aload_n (pc := 12) (i := 0) (j := 2) dX7_setAtEnds_12 rfl rfl ?_
  refine z_ogetR (pc := 13) dX7_setAtEnds_13 lf_RX7_15 sh_22 rfl rfl rfl ?_
  refine z_iload_n (pc := 16) (i := 3) (j := 1) dX7_setAtEnds_16 rfl rfl ?_
  refine z_aload_n (pc := 17) (i := 0) (j := 2) dX7_setAtEnds_17 rfl rfl ?_
  refine z_ogetR (pc := 18) dX7_setAtEnds_18 lf_RX7_9 sh_22 rfl rfl rfl ?_
  refine z_iconst (pc := 21) dX7_setAtEnds_21 ki_0 ?_
  obtain ⟨q2, hq2, hf⟩ := Option.bind_eq_some_iff.mp hf
  refine z_oSi (pc := 22) (as := [.ref 23, .int 0]) (rest := [.int ((v1 - 1) - q1.1), .ref 24]) dX7_setAtEnds_22 lm_RX7_42 mf_X10_at ms_X10_at rfl rfl (Nat.le_of_ble_eq_true rfl) (c_X10_at e (by omega) 23 0 q1.2 hq2) ?_
  obtain ⟨q3, hq3, hf⟩ := Option.bind_eq_some_iff.mp hf
  refine z_oSv (pc := 25) (as := [.ref 24, .int ((v1 - 1) - q1.1), .int q2.1]) (rest := []) dX7_setAtEnds_25 lm_RX7_22 mf_X10_lay ms_X10_lay rfl rfl (Nat.le_of_ble_eq_true rfl) (c_X10_lay e (by omega) 24 ((v1 - 1) - q1.1) q2.1 q2.2 hq3) ?_
  refine z_iconst (pc := 28) dX7_setAtEnds_28 ki_1 ?_
  refine z_istore (pc := 29) (i := 5) (ls' := [(5, .int 1), (4, .int ((v1 - 1) - q1.1)), (3, .int ((v1 - 1) - q1.1)), (0, .ref 22), (1, .int v1), (2, .int v2)]) dX7_setAtEnds_29 (Nat.le_of_ble_eq_true rfl) rfl ?_
  exact z_pick [3, 4, 5, 2, 1, 0] rfl (b_X7_setAtEnds_L31 e hd v1 v2 ((v1 - 1) - q1.1) ((v1 - 1) - q1.1) 1 q3.2 (K := K) hf hK  h0)
set_option maxHeartbeats 4000000 in
set_option maxRecDepth 100000 in
theorem c_X7_setAtEnds (d : Nat) (hd : 1 ≤ d) (v1 : Int32) (v2 : Int32) (m : ej_M) {q : (Unit × ej_M)} (hf : f_X7_setAtEnds v1 v2 m = some q) : ej_Ct yX7_setAtEnds cX7_setAtEnds 6 none d [.ref 22, .int v1, .int v2] (ej_sh, m) ((none, (ej_sh, q.2)) : Option Value × ej_H) := by
  obtain ⟨e, rfl⟩ : ∃ e, d = e + 1 := ⟨d - 1, by omega⟩
  exact z_met (by decide +kernel) (Nat.le_of_ble_eq_true rfl) (b_X7_setAtEnds e (by omega) v1 v2 m (K := fun z => ((none, (ej_sh, q.2)) : Option Value × ej_H) = (none, (ej_sh, z.2))) hf rfl (fun _ h => h))
def f_X7_firstWay_L41b (v2 : Int32) (v3 : Int32) (m : ej_M) : Option ((Int32 × ej_M) ⊕ (Int32 × ej_M)) :=
  if (1 <<< (v2 &&& 31)) ≤ v3 then
    some (Sum.inr ((-2), m))
  else
    (f_X7_setAtEnds v2 v3 m).bind fun q1 =>
    (f_X4_isLawful 24 v2 q1.2).bind fun q2 =>
    if q2.1 = 0 then
      some (Sum.inl ((v3 + 2), q2.2))
    else
      some (Sum.inr (v3, q2.2))
set_option maxHeartbeats 4000000 in
set_option maxRecDepth 100000 in
theorem b_X7_firstWay_L41b (e : Nat) (hd : 4 ≤ e) (v2 : Int32) (v3 : Int32) (m : ej_M) {x : ((Int32 × ej_M) ⊕ (Int32 × ej_M))} {res : Option Value × ej_H} {K : ((Int32 × ej_M) ⊕ (Int32 × ej_M)) → Prop} (hf : f_X7_firstWay_L41b v2 v3 m = some x) (hK : K x) (h1 : ∀ q : (Int32 × ej_M), K (Sum.inl q) → ej_Z cX7_firstWay 4 (some .int) RX7 "firstWay" (e + 1) 41 [(0, .ref 22), (2, .int v2), (3, .int q.1)] [] (ej_sh, q.2) res) (h0 : ∀ q : (Int32 × ej_M), K (Sum.inr q) → res = (some (Value.int q.1), (ej_sh, q.2))) : ej_Z cX7_firstWay 4 (some .int) RX7 "firstWay" (e + 1) 41 [(0, .ref 22), (2, .int v2), (3, .int v3)] [] (ej_sh, m) res := by
  unfold f_X7_firstWay_L41b at hf
  refine z_iload_n (pc := 41) (i := 3) (j := 2) dX7_firstWay_41 rfl rfl ?_
  refine z_iconst (pc := 42) dX7_firstWay_42 ki_1 ?_
  refine z_iload_n (pc := 43) (i := 2) (j := 1) dX7_firstWay_43 rfl rfl ?_
  refine z_ishl (pc := 44) dX7_firstWay_44 ?_
  refine z_icmp_ge (pc := 45) (tgt := 77) dX7_firstWay_45 (by decide) (fun hc => ?_) (fun hc => ?_)
  · rw [if_pos hc] at hf
    refine z_bipush (pc := 77) dX7_firstWay_77 kb_n2 ?_
    obtain rfl := Option.some.inj hf
    rw [h0 _ hK]
    exact z_iret dX7_firstWay_79 rfl rfl
  · rw [if_neg hc] at hf
    refine z_aload_n (pc := 48) (i := 0) (j := 0) dX7_firstWay_48 rfl rfl ?_
    refine z_iload_n (pc := 49) (i := 2) (j := 1) dX7_firstWay_49 rfl rfl ?_
    refine z_iload_n (pc := 50) (i := 3) (j := 2) dX7_firstWay_50 rfl rfl ?_
    obtain ⟨q1, hq1, hf⟩ := Option.bind_eq_some_iff.mp hf
    refine z_oVv (pc := 51) (as := [.int v2, .int v3]) (rest := []) dX7_firstWay_51 lm_RX7_26 mf_X7_setAtEnds mi_X7_setAtEnds mv_X7_setAtEnds rc_22 rfl rfl (Nat.le_of_ble_eq_true rfl) (c_X7_setAtEnds e (by omega) v2 v3 m hq1) ?_
    refine z_aload_n (pc := 54) (i := 0) (j := 0) dX7_firstWay_54 rfl rfl ?_
    refine z_ogetR (pc := 55) dX7_firstWay_55 lf_RX7_18 sh_22 rfl rfl rfl ?_
    refine z_aload_n (pc := 58) (i := 0) (j := 0) dX7_firstWay_58 rfl rfl ?_
    refine z_ogetR (pc := 59) dX7_firstWay_59 lf_RX7_15 sh_22 rfl rfl rfl ?_
    refine z_iload_n (pc := 62) (i := 2) (j := 1) dX7_firstWay_62 rfl rfl ?_
    obtain ⟨q2, hq2, hf⟩ := Option.bind_eq_some_iff.mp hf
    refine z_oVi (pc := 63) (as := [.ref 24, .int v2]) (rest := []) dX7_firstWay_63 lm_RX7_30 mf_X4_isLawful mi_X4_isLawful mv_X4_isLawful rc_6 rfl rfl (Nat.le_of_ble_eq_true rfl) (c_X4_isLawful e (by omega) 24 v2 q1.2 hq2) ?_
    refine z_if_eq (pc := 66) (tgt := 71) dX7_firstWay_66 (by decide) (fun hc => ?_) (fun hc => ?_)
    · rw [if_pos hc] at hf
      refine z_iinc (pc := 71) (j := 2) (ls' := [(3, .int (v3 + 2)), (0, .ref 22), (2, .int v2)]) dX7_firstWay_71 rfl ki_2 (Nat.le_of_ble_eq_true rfl) rfl ?_
      refine z_goto (pc := 74) (tgt := 41) dX7_firstWay_74 (by decide) ?_
      obtain rfl := Option.some.inj hf
      exact z_pick (ls' := [(0, .ref 22), (2, .int v2), (3, .int (v3 + 2))]) [1, 2, 0] rfl (h1 ((v3 + 2), q2.2) hK)
    · rw [if_neg hc] at hf
      refine z_iload_n (pc := 69) (i := 3) (j := 2) dX7_firstWay_69 rfl rfl ?_
      obtain rfl := Option.some.inj hf
      rw [h0 _ hK]
      exact z_iret dX7_firstWay_70 rfl rfl
def f_X7_firstWay_L41 (v2 : Int32) (v3 : Int32) (m : ej_M) : Option (Int32 × ej_M) := oj_loop (fun q : (Int32 × ej_M) => f_X7_firstWay_L41b v2 q.1 q.2) oj_FU (v3, m)
set_option maxHeartbeats 4000000 in
set_option maxRecDepth 100000 in
theorem b_X7_firstWay_L41 (e : Nat) (hd : 4 ≤ e) (v2 : Int32) (v3 : Int32) (m : ej_M) {x : (Int32 × ej_M)} {res : Option Value × ej_H} {K : (Int32 × ej_M) → Prop} (hf : f_X7_firstWay_L41 v2 v3 m = some x) (hK : K x) (h0 : ∀ q : (Int32 × ej_M), K q → res = (some (Value.int q.1), (ej_sh, q.2))) : ej_Z cX7_firstWay 4 (some .int) RX7 "firstWay" (e + 1) 41 [(0, .ref 22), (2, .int v2), (3, .int v3)] [] (ej_sh, m) res :=
  oj_loop_Z (body := fun q : (Int32 × ej_M) => f_X7_firstWay_L41b v2 q.1 q.2) (P := fun q : (Int32 × ej_M) => ej_Z cX7_firstWay 4 (some .int) RX7 "firstWay" (e + 1) 41 [(0, .ref 22), (2, .int v2), (3, .int q.1)] [] (ej_sh, q.2) res) (K := K) (fun s x hb hl hr => b_X7_firstWay_L41b e hd v2  s.1 s.2 (K := fun x => (∀ s' : (Int32 × ej_M), x = Sum.inl s' → ej_Z cX7_firstWay 4 (some .int) RX7 "firstWay" (e + 1) 41 [(0, .ref 22), (2, .int v2), (3, .int s'.1)] [] (ej_sh, s'.2) res) ∧ ∀ e, x = Sum.inr e → K e) hb ⟨hl, hr⟩ (fun q hq => hq.1 q rfl) (fun q hq => h0 q (hq.2 _ rfl))) oj_FU (v3, m) x hf hK
def f_X7_firstWay_L4b (v1 : Int32) (v2 : Int32) (v3 : Int32) (m : ej_M) : Option ((Int32 × Int32 × ej_M) ⊕ (Int32 × ej_M)) :=
  if 8 ≤ v3 then
    (f_X7_firstWay_L41 v2 0 m).map fun y => (Sum.inr y)
  else
    if ((v1 >>> (v3 &&& 31)) &&& 1) = 0 then
      some (Sum.inl (v2, (v3 + 1), m))
    else
      (f_X10_lay 23 v2 v3 m).bind fun q1 =>
      some (Sum.inl ((v2 + 1), (v3 + 1), q1.2))
set_option maxHeartbeats 4000000 in
set_option maxRecDepth 100000 in
theorem b_X7_firstWay_L4b (e : Nat) (hd : 4 ≤ e) (v1 : Int32) (v2 : Int32) (v3 : Int32) (m : ej_M) {x : ((Int32 × Int32 × ej_M) ⊕ (Int32 × ej_M))} {res : Option Value × ej_H} {K : ((Int32 × Int32 × ej_M) ⊕ (Int32 × ej_M)) → Prop} (hf : f_X7_firstWay_L4b v1 v2 v3 m = some x) (hK : K x) (h1 : ∀ q : (Int32 × Int32 × ej_M), K (Sum.inl q) → ej_Z cX7_firstWay 4 (some .int) RX7 "firstWay" (e + 1) 4 [(0, .ref 22), (1, .int v1), (2, .int q.1), (3, .int q.2.1)] [] (ej_sh, q.2.2) res) (h0 : ∀ q : (Int32 × ej_M), K (Sum.inr q) → res = (some (Value.int q.1), (ej_sh, q.2))) : ej_Z cX7_firstWay 4 (some .int) RX7 "firstWay" (e + 1) 4 [(0, .ref 22), (1, .int v1), (2, .int v2), (3, .int v3)] [] (ej_sh, m) res := by
  unfold f_X7_firstWay_L4b at hf
  refine z_iload_n (pc := 4) (i := 3) (j := 3) dX7_firstWay_4 rfl rfl ?_
  refine z_bipush (pc := 5) dX7_firstWay_5 kb_8 ?_
  refine z_icmp_ge (pc := 7) (tgt := 39) dX7_firstWay_7 (by decide) (fun hc => ?_) (fun hc => ?_)
  · rw [if_pos hc] at hf
    refine z_iconst (pc := 39) dX7_firstWay_39 ki_0 ?_
    refine z_istore_n (pc := 40) (i := 3) (ls' := [(3, .int 0), (0, .ref 22), (1, .int v1), (2, .int v2)]) dX7_firstWay_40 rfl (Nat.le_of_ble_eq_true rfl) rfl ?_
    obtain ⟨y, hy, hxy⟩ := Option.map_eq_some_iff.mp hf
    subst hxy
    exact z_pick [1, 3, 0] rfl (b_X7_firstWay_L41 e hd v2 0 m (K := fun y => K (Sum.inr y)) hy hK  h0)
  · rw [if_neg hc] at hf
    refine z_iload_n (pc := 10) (i := 1) (j := 1) dX7_firstWay_10 rfl rfl ?_
    refine z_iload_n (pc := 11) (i := 3) (j := 3) dX7_firstWay_11 rfl rfl ?_
    refine z_ishr (pc := 12) dX7_firstWay_12 ?_
    refine z_iconst (pc := 13) dX7_firstWay_13 ki_1 ?_
    refine z_iand (pc := 14) dX7_firstWay_14 ?_
    refine z_if_ne (pc := 15) (tgt := 21) dX7_firstWay_15 (by decide) (fun hc => ?_) (fun hc => ?_)
    · rw [if_neg hc] at hf
      refine z_aload_n (pc := 21) (i := 0) (j := 0) dX7_firstWay_21 rfl rfl ?_
      refine z_ogetR (pc := 22) dX7_firstWay_22 lf_RX7_9 sh_22 rfl rfl rfl ?_
      refine z_iload_n (pc := 25) (i := 2) (j := 2) dX7_firstWay_25 rfl rfl ?_
      refine z_iload_n (pc := 26) (i := 3) (j := 3) dX7_firstWay_26 rfl rfl ?_
      obtain ⟨q1, hq1, hf⟩ := Option.bind_eq_some_iff.mp hf
      refine z_oSv (pc := 27) (as := [.ref 23, .int v2, .int v3]) (rest := []) dX7_firstWay_27 lm_RX7_22 mf_X10_lay ms_X10_lay rfl rfl (Nat.le_of_ble_eq_true rfl) (c_X10_lay e (by omega) 23 v2 v3 m hq1) ?_
      refine z_iinc (pc := 30) (j := 2) (ls' := [(2, .int (v2 + 1)), (0, .ref 22), (1, .int v1), (3, .int v3)]) dX7_firstWay_30 rfl ki_1 (Nat.le_of_ble_eq_true rfl) rfl ?_
      refine z_iinc (pc := 33) (j := 3) (ls' := [(3, .int (v3 + 1)), (2, .int (v2 + 1)), (0, .ref 22), (1, .int v1)]) dX7_firstWay_33 rfl ki_1 (Nat.le_of_ble_eq_true rfl) rfl ?_
      refine z_goto (pc := 36) (tgt := 4) dX7_firstWay_36 (by decide) ?_
      obtain rfl := Option.some.inj hf
      exact z_pick (ls' := [(0, .ref 22), (1, .int v1), (2, .int (v2 + 1)), (3, .int (v3 + 1))]) [2, 3, 1, 0] rfl (h1 ((v2 + 1), (v3 + 1), q1.2) hK)
    · rw [if_pos hc] at hf
      refine z_goto (pc := 18) (tgt := 33) dX7_firstWay_18 (by decide) ?_
      refine z_iinc (pc := 33) (j := 3) (ls' := [(3, .int (v3 + 1)), (0, .ref 22), (1, .int v1), (2, .int v2)]) dX7_firstWay_33 rfl ki_1 (Nat.le_of_ble_eq_true rfl) rfl ?_
      refine z_goto (pc := 36) (tgt := 4) dX7_firstWay_36 (by decide) ?_
      obtain rfl := Option.some.inj hf
      exact z_pick (ls' := [(0, .ref 22), (1, .int v1), (2, .int v2), (3, .int (v3 + 1))]) [1, 2, 3, 0] rfl (h1 (v2, (v3 + 1), m) hK)
def f_X7_firstWay_L4 (v1 : Int32) (v2 : Int32) (v3 : Int32) (m : ej_M) : Option (Int32 × ej_M) := oj_loop (fun q : (Int32 × Int32 × ej_M) => f_X7_firstWay_L4b v1 q.1 q.2.1 q.2.2) oj_FU (v2, v3, m)
set_option maxHeartbeats 4000000 in
set_option maxRecDepth 100000 in
theorem b_X7_firstWay_L4 (e : Nat) (hd : 4 ≤ e) (v1 : Int32) (v2 : Int32) (v3 : Int32) (m : ej_M) {x : (Int32 × ej_M)} {res : Option Value × ej_H} {K : (Int32 × ej_M) → Prop} (hf : f_X7_firstWay_L4 v1 v2 v3 m = some x) (hK : K x) (h0 : ∀ q : (Int32 × ej_M), K q → res = (some (Value.int q.1), (ej_sh, q.2))) : ej_Z cX7_firstWay 4 (some .int) RX7 "firstWay" (e + 1) 4 [(0, .ref 22), (1, .int v1), (2, .int v2), (3, .int v3)] [] (ej_sh, m) res :=
  oj_loop_Z (body := fun q : (Int32 × Int32 × ej_M) => f_X7_firstWay_L4b v1 q.1 q.2.1 q.2.2) (P := fun q : (Int32 × Int32 × ej_M) => ej_Z cX7_firstWay 4 (some .int) RX7 "firstWay" (e + 1) 4 [(0, .ref 22), (1, .int v1), (2, .int q.1), (3, .int q.2.1)] [] (ej_sh, q.2.2) res) (K := K) (fun s x hb hl hr => b_X7_firstWay_L4b e hd v1  s.1 s.2.1 s.2.2 (K := fun x => (∀ s' : (Int32 × Int32 × ej_M), x = Sum.inl s' → ej_Z cX7_firstWay 4 (some .int) RX7 "firstWay" (e + 1) 4 [(0, .ref 22), (1, .int v1), (2, .int s'.1), (3, .int s'.2.1)] [] (ej_sh, s'.2.2) res) ∧ ∀ e, x = Sum.inr e → K e) hb ⟨hl, hr⟩ (fun q hq => hq.1 q rfl) (fun q hq => h0 q (hq.2 _ rfl))) oj_FU (v2, v3, m) x hf hK
def f_X7_firstWay (v1 : Int32) (m : ej_M) : Option (Int32 × ej_M) :=
  f_X7_firstWay_L4 v1 0 0 m
set_option maxHeartbeats 4000000 in
set_option maxRecDepth 100000 in
theorem b_X7_firstWay (e : Nat) (hd : 4 ≤ e) (v1 : Int32) (m : ej_M) {x : (Int32 × ej_M)} {res : Option Value × ej_H} {K : (Int32 × ej_M) → Prop} (hf : f_X7_firstWay v1 m = some x) (hK : K x) (h0 : ∀ q : (Int32 × ej_M), K q → res = (some (Value.int q.1), (ej_sh, q.2))) : ej_Z cX7_firstWay 4 (some .int) RX7 "firstWay" (e + 1) 0 [(0, .ref 22), (1, .int v1)] [] (ej_sh, m) res := by
  unfold f_X7_firstWay at hf
  refine z_iconst (pc := 0) dX7_firstWay_0 ki_0 ?_
  refine z_istore_n (pc := 1) (i := 2) (ls' := [(2, .int 0), (0, .ref 22), (1, .int v1)]) dX7_firstWay_1 rfl (Nat.le_of_ble_eq_true rfl) rfl ?_
  refine z_iconst (pc := 2) dX7_firstWay_2 ki_0 ?_
  refine z_istore_n (pc := 3) (i := 3) (ls' := [(3, .int 0), (2, .int 0), (0, .ref 22), (1, .int v1)]) dX7_firstWay_3 rfl (Nat.le_of_ble_eq_true rfl) rfl ?_
  exact z_pick [2, 3, 1, 0] rfl (b_X7_firstWay_L4 e hd v1 0 0 m (K := K) hf hK  h0)
set_option maxHeartbeats 4000000 in
set_option maxRecDepth 100000 in
theorem c_X7_firstWay (d : Nat) (hd : 5 ≤ d) (v1 : Int32) (m : ej_M) {q : (Int32 × ej_M)} (hf : f_X7_firstWay v1 m = some q) : ej_Ct yX7_firstWay cX7_firstWay 4 (some .int) d [.ref 22, .int v1] (ej_sh, m) ((some (Value.int q.1), (ej_sh, q.2)) : Option Value × ej_H) := by
  obtain ⟨e, rfl⟩ : ∃ e, d = e + 1 := ⟨d - 1, by omega⟩
  exact z_met (by decide +kernel) (Nat.le_of_ble_eq_true rfl) (b_X7_firstWay e (by omega) v1 m (K := fun z => ((some (Value.int q.1), (ej_sh, q.2)) : Option Value × ej_H) = (some (Value.int z.1), (ej_sh, z.2))) hf rfl (fun _ h => h))
def f_X10_ends (v1 : Int32) (m : ej_M) : Option (Int32 × ej_M) :=
  (f_X4_isSet v1 m).bind fun q1 =>
  if q1.1 = 0 then
    some ((-1), q1.2)
  else
    if v1 = 0 then
      some ((-1), q1.2)
    else
      (f_X7_firstWay v1 q1.2).bind fun q2 =>
      some (q2.1, q2.2)
set_option maxHeartbeats 4000000 in
set_option maxRecDepth 100000 in
theorem b_X10_ends (e : Nat) (hd : 5 ≤ e) (v1 : Int32) (m : ej_M) {x : (Int32 × ej_M)} {res : Option Value × ej_H} {K : (Int32 × ej_M) → Prop} (hf : f_X10_ends v1 m = some x) (hK : K x) (h0 : ∀ q : (Int32 × ej_M), K q → res = (some (Value.int q.1), (ej_sh, q.2))) : ej_Z cX10_ends 2 (some .int) RX10 "ends" (e + 1) 0 [(0, .ref 0), (1, .int v1)] [] (ej_sh, m) res := by
  unfold f_X10_ends at hf
  refine z_aload_n (pc := 0) (i := 0) (j := 0) dX10_ends_0 rfl rfl ?_
  refine z_ogetR (pc := 1) dX10_ends_1 lf_RX10_21 sh_0 rfl rfl rfl ?_
  refine z_iload_n (pc := 4) (i := 1) (j := 1) dX10_ends_4 rfl rfl ?_
  obtain ⟨q1, hq1, hf⟩ := Option.bind_eq_some_iff.mp hf
  refine z_oVi (pc := 5) (as := [.int v1]) (rest := []) dX10_ends_5 lm_RX10_183 mf_X4_isSet mi_X4_isSet mv_X4_isSet rc_6 rfl rfl (Nat.le_of_ble_eq_true rfl) (c_X4_isSet e (by omega) v1 m hq1) ?_
  refine z_if_eq (pc := 8) (tgt := 26) dX10_ends_8 (by decide) (fun hc => ?_) (fun hc => ?_)
  · rw [if_pos hc] at hf
    refine z_iconst (pc := 26) dX10_ends_26 ki_n1 ?_
    obtain rfl := Option.some.inj hf
    rw [h0 _ hK]
    exact z_iret dX10_ends_27 rfl rfl
  · rw [if_neg hc] at hf
    refine z_iload_n (pc := 11) (i := 1) (j := 1) dX10_ends_11 rfl rfl ?_
    refine z_if_eq (pc := 12) (tgt := 26) dX10_ends_12 (by decide) (fun hc => ?_) (fun hc => ?_)
    · rw [if_pos hc] at hf
      refine z_iconst (pc := 26) dX10_ends_26 ki_n1 ?_
      obtain rfl := Option.some.inj hf
      rw [h0 _ hK]
      exact z_iret dX10_ends_27 rfl rfl
    · rw [if_neg hc] at hf
      refine z_aload_n (pc := 15) (i := 0) (j := 0) dX10_ends_15 rfl rfl ?_
      refine z_ogetR (pc := 16) dX10_ends_16 lf_RX10_51 sh_0 rfl rfl rfl ?_
      refine z_iload_n (pc := 19) (i := 1) (j := 1) dX10_ends_19 rfl rfl ?_
      obtain ⟨q2, hq2, hf⟩ := Option.bind_eq_some_iff.mp hf
      refine z_oVi (pc := 20) (as := [.int v1]) (rest := []) dX10_ends_20 lm_RX10_213 mf_X7_firstWay mi_X7_firstWay mv_X7_firstWay rc_22 rfl rfl (Nat.le_of_ble_eq_true rfl) (c_X7_firstWay e (by omega) v1 q1.2 hq2) ?_
      refine z_goto (pc := 23) (tgt := 27) dX10_ends_23 (by decide) ?_
      obtain rfl := Option.some.inj hf
      rw [h0 _ hK]
      exact z_iret dX10_ends_27 rfl rfl
set_option maxHeartbeats 4000000 in
set_option maxRecDepth 100000 in
theorem c_X10_ends (d : Nat) (hd : 6 ≤ d) (v1 : Int32) (m : ej_M) {q : (Int32 × ej_M)} (hf : f_X10_ends v1 m = some q) : ej_Ct yX10_ends cX10_ends 2 (some .int) d [.ref 0, .int v1] (ej_sh, m) ((some (Value.int q.1), (ej_sh, q.2)) : Option Value × ej_H) := by
  obtain ⟨e, rfl⟩ : ∃ e, d = e + 1 := ⟨d - 1, by omega⟩
  exact z_met (by decide +kernel) (Nat.le_of_ble_eq_true rfl) (b_X10_ends e (by omega) v1 m (K := fun z => ((some (Value.int q.1), (ej_sh, q.2)) : Option Value × ej_H) = (some (Value.int z.1), (ej_sh, z.2))) hf rfl (fun _ h => h))
def f_X11_layEnds_L73b (v1 : Int32) (v2 : Int32) (v3 : Int32) (v4 : Int32) (v5 : Int32) (v6 : Int32) (v7 : Int32) (m : ej_M) : Option ((Int32 × Int32 × Int32 × Int32 × ej_M) ⊕ (Unit × ej_M)) :=
  if (m.1 41 1) ≤ v7 then
    some (Sum.inr ((), m))
  else
    if ((v1 >>> (v7 &&& 31)) &&& 1) = 0 then
      some (Sum.inl (v4, v5, v6, (v7 + 1), m))
    else
      if v4 = 0 then
        (oj_st 0 m 56 v3 v7).bind fun m3 =>
        some (Sum.inl ((v4 + 1), v5, v6, (v7 + 1), m3))
      else
        if ((v2 >>> (v4 &&& 31)) &&& 1) = 1 then
          (oj_st 0 m 56 (v6 + 1) v7).bind fun m2 =>
          some (Sum.inl ((v4 + 1), v5, (v6 + 1), (v7 + 1), m2))
        else
          (oj_st 0 m 56 (v5 + (-1)) v7).bind fun m1 =>
          some (Sum.inl ((v4 + 1), (v5 + (-1)), v6, (v7 + 1), m1))
set_option maxHeartbeats 4000000 in
set_option maxRecDepth 100000 in
theorem b_X11_layEnds_L73b (d : Nat) (v1 : Int32) (v2 : Int32) (v3 : Int32) (v4 : Int32) (v5 : Int32) (v6 : Int32) (v7 : Int32) (m : ej_M) {x : ((Int32 × Int32 × Int32 × Int32 × ej_M) ⊕ (Unit × ej_M))} {res : Option Value × ej_H} {K : ((Int32 × Int32 × Int32 × Int32 × ej_M) ⊕ (Unit × ej_M)) → Prop} (hf : f_X11_layEnds_L73b v1 v2 v3 v4 v5 v6 v7 m = some x) (hK : K x) (h1 : ∀ q : (Int32 × Int32 × Int32 × Int32 × ej_M), K (Sum.inl q) → ej_Z cX11_layEnds 8 none RX11 "layEnds" d 73 [(0, .ref 41), (1, .int v1), (2, .int v2), (3, .int v3), (4, .int q.1), (5, .int q.2.1), (6, .int q.2.2.1), (7, .int q.2.2.2.1)] [] (ej_sh, q.2.2.2.2) res) (h0 : ∀ q : (Unit × ej_M), K (Sum.inr q) → res = (none, (ej_sh, q.2))) : ej_Z cX11_layEnds 8 none RX11 "layEnds" d 73 [(0, .ref 41), (1, .int v1), (2, .int v2), (3, .int v3), (4, .int v4), (5, .int v5), (6, .int v6), (7, .int v7)] [] (ej_sh, m) res := by
  unfold f_X11_layEnds_L73b at hf
  refine z_iload (pc := 73) (i := 7) (j := 7) dX11_layEnds_73 rfl ?_
  refine z_aload_n (pc := 75) (i := 0) (j := 0) dX11_layEnds_75 rfl rfl ?_
  refine z_ogetI (pc := 76) dX11_layEnds_76 lf_RX11_101 sh_41 rfl rfl ?_
  refine z_icmp_ge (pc := 79) (tgt := 156) dX11_layEnds_79 (by decide) (fun hc => ?_) (fun hc => ?_)
  · rw [if_pos hc] at hf
    obtain rfl := Option.some.inj hf
    rw [h0 _ hK]
    exact z_ret dX11_layEnds_156 rfl
  · rw [if_neg hc] at hf
    refine z_iload_n (pc := 82) (i := 1) (j := 1) dX11_layEnds_82 rfl rfl ?_
    refine z_iload (pc := 83) (i := 7) (j := 7) dX11_layEnds_83 rfl ?_
    refine z_ishr (pc := 85) dX11_layEnds_85 ?_
    refine z_iconst (pc := 86) dX11_layEnds_86 ki_1 ?_
    refine z_iand (pc := 87) dX11_layEnds_87 ?_
    refine z_if_ne (pc := 88) (tgt := 94) dX11_layEnds_88 (by decide) (fun hc => ?_) (fun hc => ?_)
    · rw [if_neg hc] at hf
      refine z_iload (pc := 94) (i := 4) (j := 4) dX11_layEnds_94 rfl ?_
      refine z_if_ne (pc := 96) (tgt := 110) dX11_layEnds_96 (by decide) (fun hc => ?_) (fun hc => ?_)
      · rw [if_neg hc] at hf
        refine z_iload_n (pc := 110) (i := 2) (j := 2) dX11_layEnds_110 rfl rfl ?_
        refine z_iload (pc := 111) (i := 4) (j := 4) dX11_layEnds_111 rfl ?_
        refine z_ishr (pc := 113) dX11_layEnds_113 ?_
        refine z_iconst (pc := 114) dX11_layEnds_114 ki_1 ?_
        refine z_iand (pc := 115) dX11_layEnds_115 ?_
        refine z_iconst (pc := 116) dX11_layEnds_116 ki_1 ?_
        refine z_icmp_ne (pc := 117) (tgt := 135) dX11_layEnds_117 (by decide) (fun hc => ?_) (fun hc => ?_)
        · rw [if_neg hc] at hf
          refine z_iinc (pc := 135) (j := 5) (ls' := [(5, .int (v5 + (-1))), (0, .ref 41), (1, .int v1), (2, .int v2), (3, .int v3), (4, .int v4), (6, .int v6), (7, .int v7)]) dX11_layEnds_135 rfl ki_n1 (Nat.le_of_ble_eq_true rfl) rfl ?_
          refine z_aload_n (pc := 138) (i := 0) (j := 1) dX11_layEnds_138 rfl rfl ?_
          refine z_ogetR (pc := 139) dX11_layEnds_139 lf_RX11_54 sh_41 rfl rfl rfl ?_
          refine z_iload (pc := 142) (i := 5) (j := 0) dX11_layEnds_142 rfl ?_
          refine z_iload (pc := 144) (i := 7) (j := 7) dX11_layEnds_144 rfl ?_
          obtain ⟨m1, hm1, hf⟩ := Option.bind_eq_some_iff.mp hf
          refine z_oiast (pc := 146) dX11_layEnds_146 hm1 ?_
          refine z_iinc (pc := 147) (j := 5) (ls' := [(4, .int (v4 + 1)), (5, .int (v5 + (-1))), (0, .ref 41), (1, .int v1), (2, .int v2), (3, .int v3), (6, .int v6), (7, .int v7)]) dX11_layEnds_147 rfl ki_1 (Nat.le_of_ble_eq_true rfl) rfl ?_
          refine z_iinc (pc := 150) (j := 7) (ls' := [(7, .int (v7 + 1)), (4, .int (v4 + 1)), (5, .int (v5 + (-1))), (0, .ref 41), (1, .int v1), (2, .int v2), (3, .int v3), (6, .int v6)]) dX11_layEnds_150 rfl ki_1 (Nat.le_of_ble_eq_true rfl) rfl ?_
          refine z_goto (pc := 153) (tgt := 73) dX11_layEnds_153 (by decide) ?_
          obtain rfl := Option.some.inj hf
          exact z_pick (ls' := [(0, .ref 41), (1, .int v1), (2, .int v2), (3, .int v3), (4, .int (v4 + 1)), (5, .int (v5 + (-1))), (6, .int v6), (7, .int (v7 + 1))]) [3, 4, 5, 6, 1, 2, 7, 0] rfl (h1 ((v4 + 1), (v5 + (-1)), v6, (v7 + 1), m1) hK)
        · rw [if_pos hc] at hf
          refine z_iinc (pc := 120) (j := 6) (ls' := [(6, .int (v6 + 1)), (0, .ref 41), (1, .int v1), (2, .int v2), (3, .int v3), (4, .int v4), (5, .int v5), (7, .int v7)]) dX11_layEnds_120 rfl ki_1 (Nat.le_of_ble_eq_true rfl) rfl ?_
          refine z_aload_n (pc := 123) (i := 0) (j := 1) dX11_layEnds_123 rfl rfl ?_
          refine z_ogetR (pc := 124) dX11_layEnds_124 lf_RX11_54 sh_41 rfl rfl rfl ?_
          refine z_iload (pc := 127) (i := 6) (j := 0) dX11_layEnds_127 rfl ?_
          refine z_iload (pc := 129) (i := 7) (j := 7) dX11_layEnds_129 rfl ?_
          obtain ⟨m2, hm2, hf⟩ := Option.bind_eq_some_iff.mp hf
          refine z_oiast (pc := 131) dX11_layEnds_131 hm2 ?_
          refine z_goto (pc := 132) (tgt := 147) dX11_layEnds_132 (by decide) ?_
          refine z_iinc (pc := 147) (j := 5) (ls' := [(4, .int (v4 + 1)), (6, .int (v6 + 1)), (0, .ref 41), (1, .int v1), (2, .int v2), (3, .int v3), (5, .int v5), (7, .int v7)]) dX11_layEnds_147 rfl ki_1 (Nat.le_of_ble_eq_true rfl) rfl ?_
          refine z_iinc (pc := 150) (j := 7) (ls' := [(7, .int (v7 + 1)), (4, .int (v4 + 1)), (6, .int (v6 + 1)), (0, .ref 41), (1, .int v1), (2, .int v2), (3, .int v3), (5, .int v5)]) dX11_layEnds_150 rfl ki_1 (Nat.le_of_ble_eq_true rfl) rfl ?_
          refine z_goto (pc := 153) (tgt := 73) dX11_layEnds_153 (by decide) ?_
          obtain rfl := Option.some.inj hf
          exact z_pick (ls' := [(0, .ref 41), (1, .int v1), (2, .int v2), (3, .int v3), (4, .int (v4 + 1)), (5, .int v5), (6, .int (v6 + 1)), (7, .int (v7 + 1))]) [3, 4, 5, 6, 1, 7, 2, 0] rfl (h1 ((v4 + 1), v5, (v6 + 1), (v7 + 1), m2) hK)
      · rw [if_pos hc] at hf
        refine z_aload_n (pc := 99) (i := 0) (j := 0) dX11_layEnds_99 rfl rfl ?_
        refine z_ogetR (pc := 100) dX11_layEnds_100 lf_RX11_54 sh_41 rfl rfl rfl ?_
        refine z_iload_n (pc := 103) (i := 3) (j := 3) dX11_layEnds_103 rfl rfl ?_
        refine z_iload (pc := 104) (i := 7) (j := 7) dX11_layEnds_104 rfl ?_
        obtain ⟨m3, hm3, hf⟩ := Option.bind_eq_some_iff.mp hf
        refine z_oiast (pc := 106) dX11_layEnds_106 hm3 ?_
        refine z_goto (pc := 107) (tgt := 147) dX11_layEnds_107 (by decide) ?_
        refine z_iinc (pc := 147) (j := 4) (ls' := [(4, .int (v4 + 1)), (0, .ref 41), (1, .int v1), (2, .int v2), (3, .int v3), (5, .int v5), (6, .int v6), (7, .int v7)]) dX11_layEnds_147 rfl ki_1 (Nat.le_of_ble_eq_true rfl) rfl ?_
        refine z_iinc (pc := 150) (j := 7) (ls' := [(7, .int (v7 + 1)), (4, .int (v4 + 1)), (0, .ref 41), (1, .int v1), (2, .int v2), (3, .int v3), (5, .int v5), (6, .int v6)]) dX11_layEnds_150 rfl ki_1 (Nat.le_of_ble_eq_true rfl) rfl ?_
        refine z_goto (pc := 153) (tgt := 73) dX11_layEnds_153 (by decide) ?_
        obtain rfl := Option.some.inj hf
        exact z_pick (ls' := [(0, .ref 41), (1, .int v1), (2, .int v2), (3, .int v3), (4, .int (v4 + 1)), (5, .int v5), (6, .int v6), (7, .int (v7 + 1))]) [2, 3, 4, 5, 1, 6, 7, 0] rfl (h1 ((v4 + 1), v5, v6, (v7 + 1), m3) hK)
    · rw [if_pos hc] at hf
      refine z_goto (pc := 91) (tgt := 150) dX11_layEnds_91 (by decide) ?_
      refine z_iinc (pc := 150) (j := 7) (ls' := [(7, .int (v7 + 1)), (0, .ref 41), (1, .int v1), (2, .int v2), (3, .int v3), (4, .int v4), (5, .int v5), (6, .int v6)]) dX11_layEnds_150 rfl ki_1 (Nat.le_of_ble_eq_true rfl) rfl ?_
      refine z_goto (pc := 153) (tgt := 73) dX11_layEnds_153 (by decide) ?_
      obtain rfl := Option.some.inj hf
      exact z_pick (ls' := [(0, .ref 41), (1, .int v1), (2, .int v2), (3, .int v3), (4, .int v4), (5, .int v5), (6, .int v6), (7, .int (v7 + 1))]) [1, 2, 3, 4, 5, 6, 7, 0] rfl (h1 (v4, v5, v6, (v7 + 1), m) hK)
def f_X11_layEnds_L73 (v1 : Int32) (v2 : Int32) (v3 : Int32) (v4 : Int32) (v5 : Int32) (v6 : Int32) (v7 : Int32) (m : ej_M) : Option (Unit × ej_M) := oj_loop (fun q : (Int32 × Int32 × Int32 × Int32 × ej_M) => f_X11_layEnds_L73b v1 v2 v3 q.1 q.2.1 q.2.2.1 q.2.2.2.1 q.2.2.2.2) oj_FU (v4, v5, v6, v7, m)
set_option maxHeartbeats 4000000 in
set_option maxRecDepth 100000 in
theorem b_X11_layEnds_L73 (d : Nat) (v1 : Int32) (v2 : Int32) (v3 : Int32) (v4 : Int32) (v5 : Int32) (v6 : Int32) (v7 : Int32) (m : ej_M) {x : (Unit × ej_M)} {res : Option Value × ej_H} {K : (Unit × ej_M) → Prop} (hf : f_X11_layEnds_L73 v1 v2 v3 v4 v5 v6 v7 m = some x) (hK : K x) (h0 : ∀ q : (Unit × ej_M), K q → res = (none, (ej_sh, q.2))) : ej_Z cX11_layEnds 8 none RX11 "layEnds" d 73 [(0, .ref 41), (1, .int v1), (2, .int v2), (3, .int v3), (4, .int v4), (5, .int v5), (6, .int v6), (7, .int v7)] [] (ej_sh, m) res :=
  oj_loop_Z (body := fun q : (Int32 × Int32 × Int32 × Int32 × ej_M) => f_X11_layEnds_L73b v1 v2 v3 q.1 q.2.1 q.2.2.1 q.2.2.2.1 q.2.2.2.2) (P := fun q : (Int32 × Int32 × Int32 × Int32 × ej_M) => ej_Z cX11_layEnds 8 none RX11 "layEnds" d 73 [(0, .ref 41), (1, .int v1), (2, .int v2), (3, .int v3), (4, .int q.1), (5, .int q.2.1), (6, .int q.2.2.1), (7, .int q.2.2.2.1)] [] (ej_sh, q.2.2.2.2) res) (K := K) (fun s x hb hl hr => b_X11_layEnds_L73b d v1 v2 v3  s.1 s.2.1 s.2.2.1 s.2.2.2.1 s.2.2.2.2 (K := fun x => (∀ s' : (Int32 × Int32 × Int32 × Int32 × ej_M), x = Sum.inl s' → ej_Z cX11_layEnds 8 none RX11 "layEnds" d 73 [(0, .ref 41), (1, .int v1), (2, .int v2), (3, .int v3), (4, .int s'.1), (5, .int s'.2.1), (6, .int s'.2.2.1), (7, .int s'.2.2.2.1)] [] (ej_sh, s'.2.2.2.2) res) ∧ ∀ e, x = Sum.inr e → K e) hb ⟨hl, hr⟩ (fun q hq => hq.1 q rfl) (fun q hq => h0 q (hq.2 _ rfl))) oj_FU (v4, v5, v6, v7, m) x hf hK
def f_X11_layEnds_L8b (v1 : Int32) (v2 : Int32) (v3 : Int32) (v4 : Int32) (v5 : Int32) (m : ej_M) : Option ((Int32 × Int32 × Int32 × ej_M) ⊕ (Unit × ej_M)) :=
  if (m.1 41 1) ≤ v5 then
    (oj_pf m 41 29 v4).bind fun m1 =>
    (f_X11_layEnds_L73 v1 v2 v3 0 v3 v3 0 m1).map fun y => (Sum.inr y)
  else
    if ((v1 >>> (v5 &&& 31)) &&& 1) = 0 then
      some (Sum.inl (v3, v4, (v5 + 1), m))
    else
      if v4 ≤ 0 then
        some (Sum.inl (v3, (v4 + 1), (v5 + 1), m))
      else
        if ((v2 >>> (v4 &&& 31)) &&& 1) = 0 then
          some (Sum.inl ((v3 + 1), (v4 + 1), (v5 + 1), m))
        else
          some (Sum.inl (v3, (v4 + 1), (v5 + 1), m))
set_option maxHeartbeats 4000000 in
set_option maxRecDepth 100000 in
theorem b_X11_layEnds_L8b (d : Nat) (v1 : Int32) (v2 : Int32) (v3 : Int32) (v4 : Int32) (v5 : Int32) (m : ej_M) {x : ((Int32 × Int32 × Int32 × ej_M) ⊕ (Unit × ej_M))} {res : Option Value × ej_H} {K : ((Int32 × Int32 × Int32 × ej_M) ⊕ (Unit × ej_M)) → Prop} (hf : f_X11_layEnds_L8b v1 v2 v3 v4 v5 m = some x) (hK : K x) (h1 : ∀ q : (Int32 × Int32 × Int32 × ej_M), K (Sum.inl q) → ej_Z cX11_layEnds 8 none RX11 "layEnds" d 8 [(0, .ref 41), (1, .int v1), (2, .int v2), (3, .int q.1), (4, .int q.2.1), (5, .int q.2.2.1)] [] (ej_sh, q.2.2.2) res) (h0 : ∀ q : (Unit × ej_M), K (Sum.inr q) → res = (none, (ej_sh, q.2))) : ej_Z cX11_layEnds 8 none RX11 "layEnds" d 8 [(0, .ref 41), (1, .int v1), (2, .int v2), (3, .int v3), (4, .int v4), (5, .int v5)] [] (ej_sh, m) res := by
  unfold f_X11_layEnds_L8b at hf
  refine z_iload (pc := 8) (i := 5) (j := 5) dX11_layEnds_8 rfl ?_
  refine z_aload_n (pc := 10) (i := 0) (j := 0) dX11_layEnds_10 rfl rfl ?_
  refine z_ogetI (pc := 11) dX11_layEnds_11 lf_RX11_101 sh_41 rfl rfl ?_
  refine z_icmp_ge (pc := 14) (tgt := 55) dX11_layEnds_14 (by decide) (fun hc => ?_) (fun hc => ?_)
  · rw [if_pos hc] at hf
    refine z_aload_n (pc := 55) (i := 0) (j := 0) dX11_layEnds_55 rfl rfl ?_
    refine z_iload (pc := 56) (i := 4) (j := 4) dX11_layEnds_56 rfl ?_
    obtain ⟨m1, hm1, hf⟩ := Option.bind_eq_some_iff.mp hf
    refine z_oputI (pc := 58) dX11_layEnds_58 lf_RX11_212 sh_41 rfl hm1 ?_
    refine z_iload_n (pc := 61) (i := 3) (j := 3) dX11_layEnds_61 rfl rfl ?_
    refine z_istore (pc := 62) (i := 5) (ls' := [(5, .int v3), (0, .ref 41), (1, .int v1), (2, .int v2), (3, .int v3), (4, .int v4)]) dX11_layEnds_62 (Nat.le_of_ble_eq_true rfl) rfl ?_
    refine z_iload_n (pc := 64) (i := 3) (j := 4) dX11_layEnds_64 rfl rfl ?_
    refine z_istore (pc := 65) (i := 6) (ls' := [(6, .int v3), (5, .int v3), (0, .ref 41), (1, .int v1), (2, .int v2), (3, .int v3), (4, .int v4)]) dX11_layEnds_65 (Nat.le_of_ble_eq_true rfl) rfl ?_
    refine z_iconst (pc := 67) dX11_layEnds_67 ki_0 ?_
    refine z_istore (pc := 68) (i := 4) (ls' := [(4, .int 0), (6, .int v3), (5, .int v3), (0, .ref 41), (1, .int v1), (2, .int v2), (3, .int v3)]) dX11_layEnds_68 (Nat.le_of_ble_eq_true rfl) rfl ?_
    refine z_iconst (pc := 70) dX11_layEnds_70 ki_0 ?_
    refine z_istore (pc := 71) (i := 7) (ls' := [(7, .int 0), (4, .int 0), (6, .int v3), (5, .int v3), (0, .ref 41), (1, .int v1), (2, .int v2), (3, .int v3)]) dX11_layEnds_71 (Nat.le_of_ble_eq_true rfl) rfl ?_
    obtain ⟨y, hy, hxy⟩ := Option.map_eq_some_iff.mp hf
    subst hxy
    exact z_pick [4, 5, 6, 7, 1, 3, 2, 0] rfl (b_X11_layEnds_L73 d v1 v2 v3 0 v3 v3 0 m1 (K := fun y => K (Sum.inr y)) hy hK  h0)
  · rw [if_neg hc] at hf
    refine z_iload_n (pc := 17) (i := 1) (j := 1) dX11_layEnds_17 rfl rfl ?_
    refine z_iload (pc := 18) (i := 5) (j := 5) dX11_layEnds_18 rfl ?_
    refine z_ishr (pc := 20) dX11_layEnds_20 ?_
    refine z_iconst (pc := 21) dX11_layEnds_21 ki_1 ?_
    refine z_iand (pc := 22) dX11_layEnds_22 ?_
    refine z_if_ne (pc := 23) (tgt := 29) dX11_layEnds_23 (by decide) (fun hc => ?_) (fun hc => ?_)
    · rw [if_neg hc] at hf
      refine z_iload (pc := 29) (i := 4) (j := 4) dX11_layEnds_29 rfl ?_
      refine z_if_le (pc := 31) (tgt := 46) dX11_layEnds_31 (by decide) (fun hc => ?_) (fun hc => ?_)
      · rw [if_pos hc] at hf
        refine z_iinc (pc := 46) (j := 4) (ls' := [(4, .int (v4 + 1)), (0, .ref 41), (1, .int v1), (2, .int v2), (3, .int v3), (5, .int v5)]) dX11_layEnds_46 rfl ki_1 (Nat.le_of_ble_eq_true rfl) rfl ?_
        refine z_iinc (pc := 49) (j := 5) (ls' := [(5, .int (v5 + 1)), (4, .int (v4 + 1)), (0, .ref 41), (1, .int v1), (2, .int v2), (3, .int v3)]) dX11_layEnds_49 rfl ki_1 (Nat.le_of_ble_eq_true rfl) rfl ?_
        refine z_goto (pc := 52) (tgt := 8) dX11_layEnds_52 (by decide) ?_
        obtain rfl := Option.some.inj hf
        exact z_pick (ls' := [(0, .ref 41), (1, .int v1), (2, .int v2), (3, .int v3), (4, .int (v4 + 1)), (5, .int (v5 + 1))]) [2, 3, 4, 5, 1, 0] rfl (h1 (v3, (v4 + 1), (v5 + 1), m) hK)
      · rw [if_neg hc] at hf
        refine z_iload_n (pc := 34) (i := 2) (j := 2) dX11_layEnds_34 rfl rfl ?_
        refine z_iload (pc := 35) (i := 4) (j := 4) dX11_layEnds_35 rfl ?_
        refine z_ishr (pc := 37) dX11_layEnds_37 ?_
        refine z_iconst (pc := 38) dX11_layEnds_38 ki_1 ?_
        refine z_iand (pc := 39) dX11_layEnds_39 ?_
        refine z_if_ne (pc := 40) (tgt := 46) dX11_layEnds_40 (by decide) (fun hc => ?_) (fun hc => ?_)
        · rw [if_neg hc] at hf
          refine z_iinc (pc := 46) (j := 4) (ls' := [(4, .int (v4 + 1)), (0, .ref 41), (1, .int v1), (2, .int v2), (3, .int v3), (5, .int v5)]) dX11_layEnds_46 rfl ki_1 (Nat.le_of_ble_eq_true rfl) rfl ?_
          refine z_iinc (pc := 49) (j := 5) (ls' := [(5, .int (v5 + 1)), (4, .int (v4 + 1)), (0, .ref 41), (1, .int v1), (2, .int v2), (3, .int v3)]) dX11_layEnds_49 rfl ki_1 (Nat.le_of_ble_eq_true rfl) rfl ?_
          refine z_goto (pc := 52) (tgt := 8) dX11_layEnds_52 (by decide) ?_
          obtain rfl := Option.some.inj hf
          exact z_pick (ls' := [(0, .ref 41), (1, .int v1), (2, .int v2), (3, .int v3), (4, .int (v4 + 1)), (5, .int (v5 + 1))]) [2, 3, 4, 5, 1, 0] rfl (h1 (v3, (v4 + 1), (v5 + 1), m) hK)
        · rw [if_pos hc] at hf
          refine z_iinc (pc := 43) (j := 3) (ls' := [(3, .int (v3 + 1)), (0, .ref 41), (1, .int v1), (2, .int v2), (4, .int v4), (5, .int v5)]) dX11_layEnds_43 rfl ki_1 (Nat.le_of_ble_eq_true rfl) rfl ?_
          refine z_iinc (pc := 46) (j := 4) (ls' := [(4, .int (v4 + 1)), (3, .int (v3 + 1)), (0, .ref 41), (1, .int v1), (2, .int v2), (5, .int v5)]) dX11_layEnds_46 rfl ki_1 (Nat.le_of_ble_eq_true rfl) rfl ?_
          refine z_iinc (pc := 49) (j := 5) (ls' := [(5, .int (v5 + 1)), (4, .int (v4 + 1)), (3, .int (v3 + 1)), (0, .ref 41), (1, .int v1), (2, .int v2)]) dX11_layEnds_49 rfl ki_1 (Nat.le_of_ble_eq_true rfl) rfl ?_
          refine z_goto (pc := 52) (tgt := 8) dX11_layEnds_52 (by decide) ?_
          obtain rfl := Option.some.inj hf
          exact z_pick (ls' := [(0, .ref 41), (1, .int v1), (2, .int v2), (3, .int (v3 + 1)), (4, .int (v4 + 1)), (5, .int (v5 + 1))]) [3, 4, 5, 2, 1, 0] rfl (h1 ((v3 + 1), (v4 + 1), (v5 + 1), m) hK)
    · rw [if_pos hc] at hf
      refine z_goto (pc := 26) (tgt := 49) dX11_layEnds_26 (by decide) ?_
      refine z_iinc (pc := 49) (j := 5) (ls' := [(5, .int (v5 + 1)), (0, .ref 41), (1, .int v1), (2, .int v2), (3, .int v3), (4, .int v4)]) dX11_layEnds_49 rfl ki_1 (Nat.le_of_ble_eq_true rfl) rfl ?_
      refine z_goto (pc := 52) (tgt := 8) dX11_layEnds_52 (by decide) ?_
      obtain rfl := Option.some.inj hf
      exact z_pick (ls' := [(0, .ref 41), (1, .int v1), (2, .int v2), (3, .int v3), (4, .int v4), (5, .int (v5 + 1))]) [1, 2, 3, 4, 5, 0] rfl (h1 (v3, v4, (v5 + 1), m) hK)
def f_X11_layEnds_L8 (v1 : Int32) (v2 : Int32) (v3 : Int32) (v4 : Int32) (v5 : Int32) (m : ej_M) : Option (Unit × ej_M) := oj_loop (fun q : (Int32 × Int32 × Int32 × ej_M) => f_X11_layEnds_L8b v1 v2 q.1 q.2.1 q.2.2.1 q.2.2.2) oj_FU (v3, v4, v5, m)
set_option maxHeartbeats 4000000 in
set_option maxRecDepth 100000 in
theorem b_X11_layEnds_L8 (d : Nat) (v1 : Int32) (v2 : Int32) (v3 : Int32) (v4 : Int32) (v5 : Int32) (m : ej_M) {x : (Unit × ej_M)} {res : Option Value × ej_H} {K : (Unit × ej_M) → Prop} (hf : f_X11_layEnds_L8 v1 v2 v3 v4 v5 m = some x) (hK : K x) (h0 : ∀ q : (Unit × ej_M), K q → res = (none, (ej_sh, q.2))) : ej_Z cX11_layEnds 8 none RX11 "layEnds" d 8 [(0, .ref 41), (1, .int v1), (2, .int v2), (3, .int v3), (4, .int v4), (5, .int v5)] [] (ej_sh, m) res :=
  oj_loop_Z (body := fun q : (Int32 × Int32 × Int32 × ej_M) => f_X11_layEnds_L8b v1 v2 q.1 q.2.1 q.2.2.1 q.2.2.2) (P := fun q : (Int32 × Int32 × Int32 × ej_M) => ej_Z cX11_layEnds 8 none RX11 "layEnds" d 8 [(0, .ref 41), (1, .int v1), (2, .int v2), (3, .int q.1), (4, .int q.2.1), (5, .int q.2.2.1)] [] (ej_sh, q.2.2.2) res) (K := K) (fun s x hb hl hr => b_X11_layEnds_L8b d v1 v2  s.1 s.2.1 s.2.2.1 s.2.2.2 (K := fun x => (∀ s' : (Int32 × Int32 × Int32 × ej_M), x = Sum.inl s' → ej_Z cX11_layEnds 8 none RX11 "layEnds" d 8 [(0, .ref 41), (1, .int v1), (2, .int v2), (3, .int s'.1), (4, .int s'.2.1), (5, .int s'.2.2.1)] [] (ej_sh, s'.2.2.2) res) ∧ ∀ e, x = Sum.inr e → K e) hb ⟨hl, hr⟩ (fun q hq => hq.1 q rfl) (fun q hq => h0 q (hq.2 _ rfl))) oj_FU (v3, v4, v5, m) x hf hK
def f_X11_layEnds (v1 : Int32) (v2 : Int32) (m : ej_M) : Option (Unit × ej_M) :=
  f_X11_layEnds_L8 v1 v2 0 0 0 m
set_option maxHeartbeats 4000000 in
set_option maxRecDepth 100000 in
theorem b_X11_layEnds (d : Nat) (v1 : Int32) (v2 : Int32) (m : ej_M) {x : (Unit × ej_M)} {res : Option Value × ej_H} {K : (Unit × ej_M) → Prop} (hf : f_X11_layEnds v1 v2 m = some x) (hK : K x) (h0 : ∀ q : (Unit × ej_M), K q → res = (none, (ej_sh, q.2))) : ej_Z cX11_layEnds 8 none RX11 "layEnds" d 0 [(0, .ref 41), (1, .int v1), (2, .int v2)] [] (ej_sh, m) res := by
  unfold f_X11_layEnds at hf
  refine z_iconst (pc := 0) dX11_layEnds_0 ki_0 ?_
  refine z_istore_n (pc := 1) (i := 3) (ls' := [(3, .int 0), (0, .ref 41), (1, .int v1), (2, .int v2)]) dX11_layEnds_1 rfl (Nat.le_of_ble_eq_true rfl) rfl ?_
  refine z_iconst (pc := 2) dX11_layEnds_2 ki_0 ?_
  refine z_istore (pc := 3) (i := 4) (ls' := [(4, .int 0), (3, .int 0), (0, .ref 41), (1, .int v1), (2, .int v2)]) dX11_layEnds_3 (Nat.le_of_ble_eq_true rfl) rfl ?_
  refine z_iconst (pc := 5) dX11_layEnds_5 ki_0 ?_
  refine z_istore (pc := 6) (i := 5) (ls' := [(5, .int 0), (4, .int 0), (3, .int 0), (0, .ref 41), (1, .int v1), (2, .int v2)]) dX11_layEnds_6 (Nat.le_of_ble_eq_true rfl) rfl ?_
  exact z_pick [3, 4, 5, 2, 1, 0] rfl (b_X11_layEnds_L8 d v1 v2 0 0 0 m (K := K) hf hK  h0)
set_option maxHeartbeats 4000000 in
set_option maxRecDepth 100000 in
theorem c_X11_layEnds (d : Nat) (hd : 0 ≤ d) (v1 : Int32) (v2 : Int32) (m : ej_M) {q : (Unit × ej_M)} (hf : f_X11_layEnds v1 v2 m = some q) : ej_Ct yX11_layEnds cX11_layEnds 8 none d [.ref 41, .int v1, .int v2] (ej_sh, m) ((none, (ej_sh, q.2)) : Option Value × ej_H) := by
  exact z_met (by decide +kernel) (Nat.le_of_ble_eq_true rfl) (b_X11_layEnds d v1 v2 m (K := fun z => ((none, (ej_sh, q.2)) : Option Value × ej_H) = (none, (ej_sh, z.2))) hf rfl (fun _ h => h))
def f_X11_endsOf_L8b (v1 : Int32) (v2 : Int32) (m : ej_M) : Option ((Int32 × ej_M) ⊕ (Int32 × ej_M)) :=
  (f_X11_bitsOf v1 m).bind fun q1 =>
  if (1 <<< (q1.1 &&& 31)) ≤ v2 then
    some (Sum.inr ((-2), q1.2))
  else
    (f_X11_layEnds v1 v2 q1.2).bind fun q2 =>
    (f_X11_isLawful q2.2).bind fun q3 =>
    if q3.1 = 0 then
      some (Sum.inl ((v2 + 2), q3.2))
    else
      some (Sum.inr (v2, q3.2))
set_option maxHeartbeats 4000000 in
set_option maxRecDepth 100000 in
theorem b_X11_endsOf_L8b (e : Nat) (hd : 4 ≤ e) (v1 : Int32) (v2 : Int32) (m : ej_M) {x : ((Int32 × ej_M) ⊕ (Int32 × ej_M))} {res : Option Value × ej_H} {K : ((Int32 × ej_M) ⊕ (Int32 × ej_M)) → Prop} (hf : f_X11_endsOf_L8b v1 v2 m = some x) (hK : K x) (h1 : ∀ q : (Int32 × ej_M), K (Sum.inl q) → ej_Z cX11_endsOf 3 (some .int) RX11 "endsOf" (e + 1) 8 [(0, .ref 41), (1, .int v1), (2, .int q.1)] [] (ej_sh, q.2) res) (h0 : ∀ q : (Int32 × ej_M), K (Sum.inr q) → res = (some (Value.int q.1), (ej_sh, q.2))) : ej_Z cX11_endsOf 3 (some .int) RX11 "endsOf" (e + 1) 8 [(0, .ref 41), (1, .int v1), (2, .int v2)] [] (ej_sh, m) res := by
  unfold f_X11_endsOf_L8b at hf
  refine z_iload_n (pc := 8) (i := 2) (j := 2) dX11_endsOf_8 rfl rfl ?_
  refine z_iconst (pc := 9) dX11_endsOf_9 ki_1 ?_
  refine z_iload_n (pc := 10) (i := 1) (j := 1) dX11_endsOf_10 rfl rfl ?_
  obtain ⟨q1, hq1, hf⟩ := Option.bind_eq_some_iff.mp hf
  refine z_oSi (pc := 11) (as := [.int v1]) (rest := [.int 1, .int v2]) dX11_endsOf_11 lm_RX11_266 mf_X11_bitsOf ms_X11_bitsOf rfl rfl (Nat.le_of_ble_eq_true rfl) (c_X11_bitsOf e (by omega) v1 m hq1) ?_
  refine z_ishl (pc := 14) dX11_endsOf_14 ?_
  refine z_icmp_ge (pc := 15) (tgt := 39) dX11_endsOf_15 (by decide) (fun hc => ?_) (fun hc => ?_)
  · rw [if_pos hc] at hf
    refine z_bipush (pc := 39) dX11_endsOf_39 kb_n2 ?_
    obtain rfl := Option.some.inj hf
    rw [h0 _ hK]
    exact z_iret dX11_endsOf_41 rfl rfl
  · rw [if_neg hc] at hf
    refine z_aload_n (pc := 18) (i := 0) (j := 0) dX11_endsOf_18 rfl rfl ?_
    refine z_iload_n (pc := 19) (i := 1) (j := 1) dX11_endsOf_19 rfl rfl ?_
    refine z_iload_n (pc := 20) (i := 2) (j := 2) dX11_endsOf_20 rfl rfl ?_
    obtain ⟨q2, hq2, hf⟩ := Option.bind_eq_some_iff.mp hf
    refine z_oVv (pc := 21) (as := [.int v1, .int v2]) (rest := []) dX11_endsOf_21 lm_RX11_291 mf_X11_layEnds mi_X11_layEnds mv_X11_layEnds rc_41 rfl rfl (Nat.le_of_ble_eq_true rfl) (c_X11_layEnds e (by omega) v1 v2 q1.2 hq2) ?_
    refine z_aload_n (pc := 24) (i := 0) (j := 0) dX11_endsOf_24 rfl rfl ?_
    obtain ⟨q3, hq3, hf⟩ := Option.bind_eq_some_iff.mp hf
    refine z_oVi (pc := 25) (as := []) (rest := []) dX11_endsOf_25 lm_RX11_230 mf_X11_isLawful mi_X11_isLawful mv_X11_isLawful rc_41 rfl rfl (Nat.le_of_ble_eq_true rfl) (c_X11_isLawful e (by omega) q2.2 hq3) ?_
    refine z_if_eq (pc := 28) (tgt := 33) dX11_endsOf_28 (by decide) (fun hc => ?_) (fun hc => ?_)
    · rw [if_pos hc] at hf
      refine z_iinc (pc := 33) (j := 2) (ls' := [(2, .int (v2 + 2)), (0, .ref 41), (1, .int v1)]) dX11_endsOf_33 rfl ki_2 (Nat.le_of_ble_eq_true rfl) rfl ?_
      refine z_goto (pc := 36) (tgt := 8) dX11_endsOf_36 (by decide) ?_
      obtain rfl := Option.some.inj hf
      exact z_pick (ls' := [(0, .ref 41), (1, .int v1), (2, .int (v2 + 2))]) [1, 2, 0] rfl (h1 ((v2 + 2), q3.2) hK)
    · rw [if_neg hc] at hf
      refine z_iload_n (pc := 31) (i := 2) (j := 2) dX11_endsOf_31 rfl rfl ?_
      obtain rfl := Option.some.inj hf
      rw [h0 _ hK]
      exact z_iret dX11_endsOf_32 rfl rfl
def f_X11_endsOf_L8 (v1 : Int32) (v2 : Int32) (m : ej_M) : Option (Int32 × ej_M) := oj_loop (fun q : (Int32 × ej_M) => f_X11_endsOf_L8b v1 q.1 q.2) oj_FU (v2, m)
set_option maxHeartbeats 4000000 in
set_option maxRecDepth 100000 in
theorem b_X11_endsOf_L8 (e : Nat) (hd : 4 ≤ e) (v1 : Int32) (v2 : Int32) (m : ej_M) {x : (Int32 × ej_M)} {res : Option Value × ej_H} {K : (Int32 × ej_M) → Prop} (hf : f_X11_endsOf_L8 v1 v2 m = some x) (hK : K x) (h0 : ∀ q : (Int32 × ej_M), K q → res = (some (Value.int q.1), (ej_sh, q.2))) : ej_Z cX11_endsOf 3 (some .int) RX11 "endsOf" (e + 1) 8 [(0, .ref 41), (1, .int v1), (2, .int v2)] [] (ej_sh, m) res :=
  oj_loop_Z (body := fun q : (Int32 × ej_M) => f_X11_endsOf_L8b v1 q.1 q.2) (P := fun q : (Int32 × ej_M) => ej_Z cX11_endsOf 3 (some .int) RX11 "endsOf" (e + 1) 8 [(0, .ref 41), (1, .int v1), (2, .int q.1)] [] (ej_sh, q.2) res) (K := K) (fun s x hb hl hr => b_X11_endsOf_L8b e hd v1  s.1 s.2 (K := fun x => (∀ s' : (Int32 × ej_M), x = Sum.inl s' → ej_Z cX11_endsOf 3 (some .int) RX11 "endsOf" (e + 1) 8 [(0, .ref 41), (1, .int v1), (2, .int s'.1)] [] (ej_sh, s'.2) res) ∧ ∀ e, x = Sum.inr e → K e) hb ⟨hl, hr⟩ (fun q hq => hq.1 q rfl) (fun q hq => h0 q (hq.2 _ rfl))) oj_FU (v2, m) x hf hK
def f_X11_endsOf (v1 : Int32) (m : ej_M) : Option (Int32 × ej_M) :=
  if v1 = 0 then
    some (0, m)
  else
    f_X11_endsOf_L8 v1 0 m
set_option maxHeartbeats 4000000 in
set_option maxRecDepth 100000 in
theorem b_X11_endsOf (e : Nat) (hd : 4 ≤ e) (v1 : Int32) (m : ej_M) {x : (Int32 × ej_M)} {res : Option Value × ej_H} {K : (Int32 × ej_M) → Prop} (hf : f_X11_endsOf v1 m = some x) (hK : K x) (h0 : ∀ q : (Int32 × ej_M), K q → res = (some (Value.int q.1), (ej_sh, q.2))) : ej_Z cX11_endsOf 3 (some .int) RX11 "endsOf" (e + 1) 0 [(0, .ref 41), (1, .int v1)] [] (ej_sh, m) res := by
  unfold f_X11_endsOf at hf
  refine z_iload_n (pc := 0) (i := 1) (j := 1) dX11_endsOf_0 rfl rfl ?_
  refine z_if_ne (pc := 1) (tgt := 6) dX11_endsOf_1 (by decide) (fun hc => ?_) (fun hc => ?_)
  · rw [if_neg hc] at hf
    refine z_iconst (pc := 6) dX11_endsOf_6 ki_0 ?_
    refine z_istore_n (pc := 7) (i := 2) (ls' := [(2, .int 0), (0, .ref 41), (1, .int v1)]) dX11_endsOf_7 rfl (Nat.le_of_ble_eq_true rfl) rfl ?_
    exact z_pick [1, 2, 0] rfl (b_X11_endsOf_L8 e hd v1 0 m (K := K) hf hK  h0)
  · rw [if_pos hc] at hf
    refine z_iconst (pc := 4) dX11_endsOf_4 ki_0 ?_
    obtain rfl := Option.some.inj hf
    rw [h0 _ hK]
    exact z_iret dX11_endsOf_5 rfl rfl
set_option maxHeartbeats 4000000 in
set_option maxRecDepth 100000 in
theorem c_X11_endsOf (d : Nat) (hd : 5 ≤ d) (v1 : Int32) (m : ej_M) {q : (Int32 × ej_M)} (hf : f_X11_endsOf v1 m = some q) : ej_Ct yX11_endsOf cX11_endsOf 3 (some .int) d [.ref 41, .int v1] (ej_sh, m) ((some (Value.int q.1), (ej_sh, q.2)) : Option Value × ej_H) := by
  obtain ⟨e, rfl⟩ : ∃ e, d = e + 1 := ⟨d - 1, by omega⟩
  exact z_met (by decide +kernel) (Nat.le_of_ble_eq_true rfl) (b_X11_endsOf e (by omega) v1 m (K := fun z => ((some (Value.int q.1), (ej_sh, q.2)) : Option Value × ej_H) = (some (Value.int z.1), (ej_sh, z.2))) hf rfl (fun _ h => h))
def f_X11_ends (v1 : Int32) (m : ej_M) : Option (Int32 × ej_M) :=
  (f_X11_isSet v1 m).bind fun q1 =>
  if q1.1 = 0 then
    some ((-1), q1.2)
  else
    if v1 ≤ 0 then
      some ((-1), q1.2)
    else
      (f_X11_endsOf v1 q1.2).bind fun q2 =>
      some (q2.1, q2.2)
set_option maxHeartbeats 4000000 in
set_option maxRecDepth 100000 in
theorem b_X11_ends (e : Nat) (hd : 5 ≤ e) (v1 : Int32) (m : ej_M) {x : (Int32 × ej_M)} {res : Option Value × ej_H} {K : (Int32 × ej_M) → Prop} (hf : f_X11_ends v1 m = some x) (hK : K x) (h0 : ∀ q : (Int32 × ej_M), K q → res = (some (Value.int q.1), (ej_sh, q.2))) : ej_Z cX11_ends 2 (some .int) RX11 "ends" (e + 1) 0 [(0, .ref 41), (1, .int v1)] [] (ej_sh, m) res := by
  unfold f_X11_ends at hf
  refine z_aload_n (pc := 0) (i := 0) (j := 0) dX11_ends_0 rfl rfl ?_
  refine z_iload_n (pc := 1) (i := 1) (j := 1) dX11_ends_1 rfl rfl ?_
  obtain ⟨q1, hq1, hf⟩ := Option.bind_eq_some_iff.mp hf
  refine z_oVi (pc := 2) (as := [.int v1]) (rest := []) dX11_ends_2 lm_RX11_276 mf_X11_isSet mi_X11_isSet mv_X11_isSet rc_41 rfl rfl (Nat.le_of_ble_eq_true rfl) (c_X11_isSet e (by omega) v1 m hq1) ?_
  refine z_if_eq (pc := 5) (tgt := 20) dX11_ends_5 (by decide) (fun hc => ?_) (fun hc => ?_)
  · rw [if_pos hc] at hf
    refine z_iconst (pc := 20) dX11_ends_20 ki_n1 ?_
    obtain rfl := Option.some.inj hf
    rw [h0 _ hK]
    exact z_iret dX11_ends_21 rfl rfl
  · rw [if_neg hc] at hf
    refine z_iload_n (pc := 8) (i := 1) (j := 1) dX11_ends_8 rfl rfl ?_
    refine z_if_le (pc := 9) (tgt := 20) dX11_ends_9 (by decide) (fun hc => ?_) (fun hc => ?_)
    · rw [if_pos hc] at hf
      refine z_iconst (pc := 20) dX11_ends_20 ki_n1 ?_
      obtain rfl := Option.some.inj hf
      rw [h0 _ hK]
      exact z_iret dX11_ends_21 rfl rfl
    · rw [if_neg hc] at hf
      refine z_aload_n (pc := 12) (i := 0) (j := 0) dX11_ends_12 rfl rfl ?_
      refine z_iload_n (pc := 13) (i := 1) (j := 1) dX11_ends_13 rfl rfl ?_
      obtain ⟨q2, hq2, hf⟩ := Option.bind_eq_some_iff.mp hf
      refine z_oVi (pc := 14) (as := [.int v1]) (rest := []) dX11_ends_14 lm_RX11_294 mf_X11_endsOf mi_X11_endsOf mv_X11_endsOf rc_41 rfl rfl (Nat.le_of_ble_eq_true rfl) (c_X11_endsOf e (by omega) v1 q1.2 hq2) ?_
      refine z_goto (pc := 17) (tgt := 21) dX11_ends_17 (by decide) ?_
      obtain rfl := Option.some.inj hf
      rw [h0 _ hK]
      exact z_iret dX11_ends_21 rfl rfl
set_option maxHeartbeats 4000000 in
set_option maxRecDepth 100000 in
theorem c_X11_ends (d : Nat) (hd : 6 ≤ d) (v1 : Int32) (m : ej_M) {q : (Int32 × ej_M)} (hf : f_X11_ends v1 m = some q) : ej_Ct yX11_ends cX11_ends 2 (some .int) d [.ref 41, .int v1] (ej_sh, m) ((some (Value.int q.1), (ej_sh, q.2)) : Option Value × ej_H) := by
  obtain ⟨e, rfl⟩ : ∃ e, d = e + 1 := ⟨d - 1, by omega⟩
  exact z_met (by decide +kernel) (Nat.le_of_ble_eq_true rfl) (b_X11_ends e (by omega) v1 m (K := fun z => ((some (Value.int q.1), (ej_sh, q.2)) : Option Value × ej_H) = (some (Value.int z.1), (ej_sh, z.2))) hf rfl (fun _ h => h))
def f_X7_fewestAside_L15b (v1 : Int32) (v2 : Int32) (v3 : Int32) (v4 : Int32) (m : ej_M) : Option ((Int32 × ej_M) ⊕ ((Int32 × ej_M) ⊕ (Int32 × ej_M))) :=
  if v1 ≤ v4 then
    some (Sum.inr (Sum.inl ((v3 + 1), m)))
  else
    if (v4 &&& (v1 ^^^ (-1))) = 0 then
      (f_J6_bitCount_0f7a4 v4 m).bind fun q1 =>
      if q1.1 = v3 then
        (f_X7_firstWay (v1 &&& (v4 ^^^ (-1))) q1.2).bind fun q2 =>
        if q2.1 = (-2) then
          some (Sum.inl ((v4 + 1), q2.2))
        else
          some (Sum.inr (Sum.inr (v4, q2.2)))
      else
        some (Sum.inl ((v4 + 1), q1.2))
    else
      some (Sum.inl ((v4 + 1), m))
set_option maxHeartbeats 4000000 in
set_option maxRecDepth 100000 in
theorem b_X7_fewestAside_L15b (e : Nat) (hd : 5 ≤ e) (v1 : Int32) (v2 : Int32) (v3 : Int32) (v4 : Int32) (m : ej_M) {x : ((Int32 × ej_M) ⊕ ((Int32 × ej_M) ⊕ (Int32 × ej_M)))} {res : Option Value × ej_H} {K : ((Int32 × ej_M) ⊕ ((Int32 × ej_M) ⊕ (Int32 × ej_M))) → Prop} (hf : f_X7_fewestAside_L15b v1 v2 v3 v4 m = some x) (hK : K x) (h1 : ∀ q : (Int32 × ej_M), K (Sum.inl q) → ej_Z cX7_fewestAside 5 (some .int) RX7 "fewestAside" (e + 1) 15 [(0, .ref 22), (1, .int v1), (2, .int v2), (3, .int v3), (4, .int q.1)] [] (ej_sh, q.2) res) (h2 : ∀ q : (Int32 × ej_M), K (Sum.inr (Sum.inl q)) → ej_Z cX7_fewestAside 5 (some .int) RX7 "fewestAside" (e + 1) 7 [(0, .ref 22), (1, .int v1), (2, .int v2), (3, .int q.1)] [] (ej_sh, q.2) res) (h0 : ∀ q : (Int32 × ej_M), K (Sum.inr (Sum.inr q)) → res = (some (Value.int q.1), (ej_sh, q.2))) : ej_Z cX7_fewestAside 5 (some .int) RX7 "fewestAside" (e + 1) 15 [(0, .ref 22), (1, .int v1), (2, .int v2), (3, .int v3), (4, .int v4)] [] (ej_sh, m) res := by
  unfold f_X7_fewestAside_L15b at hf
  refine z_iload (pc := 15) (i := 4) (j := 4) dX7_fewestAside_15 rfl ?_
  refine z_iload_n (pc := 17) (i := 1) (j := 1) dX7_fewestAside_17 rfl rfl ?_
  refine z_icmp_ge (pc := 18) (tgt := 66) dX7_fewestAside_18 (by decide) (fun hc => ?_) (fun hc => ?_)
  · rw [if_pos hc] at hf
    refine z_iinc (pc := 66) (j := 3) (ls' := [(3, .int (v3 + 1)), (0, .ref 22), (1, .int v1), (2, .int v2), (4, .int v4)]) dX7_fewestAside_66 rfl ki_1 (Nat.le_of_ble_eq_true rfl) rfl ?_
    refine z_goto (pc := 69) (tgt := 7) dX7_fewestAside_69 (by decide) ?_
    obtain rfl := Option.some.inj hf
    exact z_pick (ls' := [(0, .ref 22), (1, .int v1), (2, .int v2), (3, .int (v3 + 1))]) [1, 2, 3, 0] rfl (h2 ((v3 + 1), m) hK)
  · rw [if_neg hc] at hf
    refine z_iload (pc := 21) (i := 4) (j := 4) dX7_fewestAside_21 rfl ?_
    refine z_iload_n (pc := 23) (i := 1) (j := 1) dX7_fewestAside_23 rfl rfl ?_
    refine z_iconst (pc := 24) dX7_fewestAside_24 ki_n1 ?_
    refine z_ixor (pc := 25) dX7_fewestAside_25 ?_
    refine z_iand (pc := 26) dX7_fewestAside_26 ?_
    refine z_if_ne (pc := 27) (tgt := 60) dX7_fewestAside_27 (by decide) (fun hc => ?_) (fun hc => ?_)
    · rw [if_neg hc] at hf
      refine z_iinc (pc := 60) (j := 4) (ls' := [(4, .int (v4 + 1)), (0, .ref 22), (1, .int v1), (2, .int v2), (3, .int v3)]) dX7_fewestAside_60 rfl ki_1 (Nat.le_of_ble_eq_true rfl) rfl ?_
      refine z_goto (pc := 63) (tgt := 15) dX7_fewestAside_63 (by decide) ?_
      obtain rfl := Option.some.inj hf
      exact z_pick (ls' := [(0, .ref 22), (1, .int v1), (2, .int v2), (3, .int v3), (4, .int (v4 + 1))]) [1, 2, 3, 4, 0] rfl (h1 ((v4 + 1), m) hK)
    · rw [if_pos hc] at hf
      refine z_iload (pc := 30) (i := 4) (j := 4) dX7_fewestAside_30 rfl ?_
      obtain ⟨q1, hq1, hf⟩ := Option.bind_eq_some_iff.mp hf
      refine z_oSi (pc := 32) (as := [.int v4]) (rest := []) dX7_fewestAside_32 lm_RX7_36 mf_J6_bitCount_0f7a4 ms_J6_bitCount_0f7a4 rfl rfl (Nat.le_of_ble_eq_true rfl) (c_J6_bitCount_0f7a4 e (by omega) v4 m hq1) ?_
      refine z_iload_n (pc := 35) (i := 3) (j := 3) dX7_fewestAside_35 rfl rfl ?_
      refine z_icmp_eq (pc := 36) (tgt := 42) dX7_fewestAside_36 (by decide) (fun hc => ?_) (fun hc => ?_)
      · rw [if_pos hc] at hf
        refine z_aload_n (pc := 42) (i := 0) (j := 0) dX7_fewestAside_42 rfl rfl ?_
        refine z_iload_n (pc := 43) (i := 1) (j := 1) dX7_fewestAside_43 rfl rfl ?_
        refine z_iload (pc := 44) (i := 4) (j := 4) dX7_fewestAside_44 rfl ?_
        refine z_iconst (pc := 46) dX7_fewestAside_46 ki_n1 ?_
        refine z_ixor (pc := 47) dX7_fewestAside_47 ?_
        refine z_iand (pc := 48) dX7_fewestAside_48 ?_
        obtain ⟨q2, hq2, hf⟩ := Option.bind_eq_some_iff.mp hf
        refine z_oVi (pc := 49) (as := [.int (v1 &&& (v4 ^^^ (-1)))]) (rest := []) dX7_fewestAside_49 lm_RX7_46 mf_X7_firstWay mi_X7_firstWay mv_X7_firstWay rc_22 rfl rfl (Nat.le_of_ble_eq_true rfl) (c_X7_firstWay e (by omega) (v1 &&& (v4 ^^^ (-1))) q1.2 hq2) ?_
        refine z_bipush (pc := 52) dX7_fewestAside_52 kb_n2 ?_
        refine z_icmp_eq (pc := 54) (tgt := 60) dX7_fewestAside_54 (by decide) (fun hc => ?_) (fun hc => ?_)
        · rw [if_pos hc] at hf
          refine z_iinc (pc := 60) (j := 4) (ls' := [(4, .int (v4 + 1)), (0, .ref 22), (1, .int v1), (2, .int v2), (3, .int v3)]) dX7_fewestAside_60 rfl ki_1 (Nat.le_of_ble_eq_true rfl) rfl ?_
          refine z_goto (pc := 63) (tgt := 15) dX7_fewestAside_63 (by decide) ?_
          obtain rfl := Option.some.inj hf
          exact z_pick (ls' := [(0, .ref 22), (1, .int v1), (2, .int v2), (3, .int v3), (4, .int (v4 + 1))]) [1, 2, 3, 4, 0] rfl (h1 ((v4 + 1), q2.2) hK)
        · rw [if_neg hc] at hf
          refine z_iload (pc := 57) (i := 4) (j := 4) dX7_fewestAside_57 rfl ?_
          obtain rfl := Option.some.inj hf
          rw [h0 _ hK]
          exact z_iret dX7_fewestAside_59 rfl rfl
      · rw [if_neg hc] at hf
        refine z_goto (pc := 39) (tgt := 60) dX7_fewestAside_39 (by decide) ?_
        refine z_iinc (pc := 60) (j := 4) (ls' := [(4, .int (v4 + 1)), (0, .ref 22), (1, .int v1), (2, .int v2), (3, .int v3)]) dX7_fewestAside_60 rfl ki_1 (Nat.le_of_ble_eq_true rfl) rfl ?_
        refine z_goto (pc := 63) (tgt := 15) dX7_fewestAside_63 (by decide) ?_
        obtain rfl := Option.some.inj hf
        exact z_pick (ls' := [(0, .ref 22), (1, .int v1), (2, .int v2), (3, .int v3), (4, .int (v4 + 1))]) [1, 2, 3, 4, 0] rfl (h1 ((v4 + 1), q1.2) hK)
def f_X7_fewestAside_L15 (v1 : Int32) (v2 : Int32) (v3 : Int32) (v4 : Int32) (m : ej_M) : Option ((Int32 × ej_M) ⊕ (Int32 × ej_M)) := oj_loop (fun q : (Int32 × ej_M) => f_X7_fewestAside_L15b v1 v2 v3 q.1 q.2) oj_FU (v4, m)
set_option maxHeartbeats 4000000 in
set_option maxRecDepth 100000 in
theorem b_X7_fewestAside_L15 (e : Nat) (hd : 5 ≤ e) (v1 : Int32) (v2 : Int32) (v3 : Int32) (v4 : Int32) (m : ej_M) {x : ((Int32 × ej_M) ⊕ (Int32 × ej_M))} {res : Option Value × ej_H} {K : ((Int32 × ej_M) ⊕ (Int32 × ej_M)) → Prop} (hf : f_X7_fewestAside_L15 v1 v2 v3 v4 m = some x) (hK : K x) (h1 : ∀ q : (Int32 × ej_M), K (Sum.inl q) → ej_Z cX7_fewestAside 5 (some .int) RX7 "fewestAside" (e + 1) 7 [(0, .ref 22), (1, .int v1), (2, .int v2), (3, .int q.1)] [] (ej_sh, q.2) res) (h0 : ∀ q : (Int32 × ej_M), K (Sum.inr q) → res = (some (Value.int q.1), (ej_sh, q.2))) : ej_Z cX7_fewestAside 5 (some .int) RX7 "fewestAside" (e + 1) 15 [(0, .ref 22), (1, .int v1), (2, .int v2), (3, .int v3), (4, .int v4)] [] (ej_sh, m) res :=
  oj_loop_Z (body := fun q : (Int32 × ej_M) => f_X7_fewestAside_L15b v1 v2 v3 q.1 q.2) (P := fun q : (Int32 × ej_M) => ej_Z cX7_fewestAside 5 (some .int) RX7 "fewestAside" (e + 1) 15 [(0, .ref 22), (1, .int v1), (2, .int v2), (3, .int v3), (4, .int q.1)] [] (ej_sh, q.2) res) (K := K) (fun s x hb hl hr => b_X7_fewestAside_L15b e hd v1 v2 v3  s.1 s.2 (K := fun x => (∀ s' : (Int32 × ej_M), x = Sum.inl s' → ej_Z cX7_fewestAside 5 (some .int) RX7 "fewestAside" (e + 1) 15 [(0, .ref 22), (1, .int v1), (2, .int v2), (3, .int v3), (4, .int s'.1)] [] (ej_sh, s'.2) res) ∧ ∀ e, x = Sum.inr e → K e) hb ⟨hl, hr⟩ (fun q hq => hq.1 q rfl) (fun q hq => h1 q (hq.2 _ rfl)) (fun q hq => h0 q (hq.2 _ rfl))) oj_FU (v4, m) x hf hK
def f_X7_fewestAside_L7b (v1 : Int32) (v2 : Int32) (v3 : Int32) (m : ej_M) : Option ((Int32 × ej_M) ⊕ (Int32 × ej_M)) :=
  if v2 ≤ v3 then
    some (Sum.inr (v1, m))
  else
    f_X7_fewestAside_L15 v1 v2 v3 0 m
set_option maxHeartbeats 4000000 in
set_option maxRecDepth 100000 in
theorem b_X7_fewestAside_L7b (e : Nat) (hd : 5 ≤ e) (v1 : Int32) (v2 : Int32) (v3 : Int32) (m : ej_M) {x : ((Int32 × ej_M) ⊕ (Int32 × ej_M))} {res : Option Value × ej_H} {K : ((Int32 × ej_M) ⊕ (Int32 × ej_M)) → Prop} (hf : f_X7_fewestAside_L7b v1 v2 v3 m = some x) (hK : K x) (h1 : ∀ q : (Int32 × ej_M), K (Sum.inl q) → ej_Z cX7_fewestAside 5 (some .int) RX7 "fewestAside" (e + 1) 7 [(0, .ref 22), (1, .int v1), (2, .int v2), (3, .int q.1)] [] (ej_sh, q.2) res) (h0 : ∀ q : (Int32 × ej_M), K (Sum.inr q) → res = (some (Value.int q.1), (ej_sh, q.2))) : ej_Z cX7_fewestAside 5 (some .int) RX7 "fewestAside" (e + 1) 7 [(0, .ref 22), (1, .int v1), (2, .int v2), (3, .int v3)] [] (ej_sh, m) res := by
  unfold f_X7_fewestAside_L7b at hf
  refine z_iload_n (pc := 7) (i := 3) (j := 3) dX7_fewestAside_7 rfl rfl ?_
  refine z_iload_n (pc := 8) (i := 2) (j := 2) dX7_fewestAside_8 rfl rfl ?_
  refine z_icmp_ge (pc := 9) (tgt := 72) dX7_fewestAside_9 (by decide) (fun hc => ?_) (fun hc => ?_)
  · rw [if_pos hc] at hf
    refine z_iload_n (pc := 72) (i := 1) (j := 1) dX7_fewestAside_72 rfl rfl ?_
    obtain rfl := Option.some.inj hf
    rw [h0 _ hK]
    exact z_iret dX7_fewestAside_73 rfl rfl
  · rw [if_neg hc] at hf
    refine z_iconst (pc := 12) dX7_fewestAside_12 ki_0 ?_
    refine z_istore (pc := 13) (i := 4) (ls' := [(4, .int 0), (0, .ref 22), (1, .int v1), (2, .int v2), (3, .int v3)]) dX7_fewestAside_13 (Nat.le_of_ble_eq_true rfl) rfl ?_
    exact z_pick [1, 2, 3, 4, 0] rfl (b_X7_fewestAside_L15 e hd v1 v2 v3 0 m (K := K) hf hK h1 h0)
def f_X7_fewestAside_L7 (v1 : Int32) (v2 : Int32) (v3 : Int32) (m : ej_M) : Option (Int32 × ej_M) := oj_loop (fun q : (Int32 × ej_M) => f_X7_fewestAside_L7b v1 v2 q.1 q.2) oj_FU (v3, m)
set_option maxHeartbeats 4000000 in
set_option maxRecDepth 100000 in
theorem b_X7_fewestAside_L7 (e : Nat) (hd : 5 ≤ e) (v1 : Int32) (v2 : Int32) (v3 : Int32) (m : ej_M) {x : (Int32 × ej_M)} {res : Option Value × ej_H} {K : (Int32 × ej_M) → Prop} (hf : f_X7_fewestAside_L7 v1 v2 v3 m = some x) (hK : K x) (h0 : ∀ q : (Int32 × ej_M), K q → res = (some (Value.int q.1), (ej_sh, q.2))) : ej_Z cX7_fewestAside 5 (some .int) RX7 "fewestAside" (e + 1) 7 [(0, .ref 22), (1, .int v1), (2, .int v2), (3, .int v3)] [] (ej_sh, m) res :=
  oj_loop_Z (body := fun q : (Int32 × ej_M) => f_X7_fewestAside_L7b v1 v2 q.1 q.2) (P := fun q : (Int32 × ej_M) => ej_Z cX7_fewestAside 5 (some .int) RX7 "fewestAside" (e + 1) 7 [(0, .ref 22), (1, .int v1), (2, .int v2), (3, .int q.1)] [] (ej_sh, q.2) res) (K := K) (fun s x hb hl hr => b_X7_fewestAside_L7b e hd v1 v2  s.1 s.2 (K := fun x => (∀ s' : (Int32 × ej_M), x = Sum.inl s' → ej_Z cX7_fewestAside 5 (some .int) RX7 "fewestAside" (e + 1) 7 [(0, .ref 22), (1, .int v1), (2, .int v2), (3, .int s'.1)] [] (ej_sh, s'.2) res) ∧ ∀ e, x = Sum.inr e → K e) hb ⟨hl, hr⟩ (fun q hq => hq.1 q rfl) (fun q hq => h0 q (hq.2 _ rfl))) oj_FU (v3, m) x hf hK
def f_X7_fewestAside (v1 : Int32) (m : ej_M) : Option (Int32 × ej_M) :=
  (f_J6_bitCount_0f7a4 v1 m).bind fun q1 =>
  f_X7_fewestAside_L7 v1 q1.1 0 q1.2
set_option maxHeartbeats 4000000 in
set_option maxRecDepth 100000 in
theorem b_X7_fewestAside (e : Nat) (hd : 5 ≤ e) (v1 : Int32) (m : ej_M) {x : (Int32 × ej_M)} {res : Option Value × ej_H} {K : (Int32 × ej_M) → Prop} (hf : f_X7_fewestAside v1 m = some x) (hK : K x) (h0 : ∀ q : (Int32 × ej_M), K q → res = (some (Value.int q.1), (ej_sh, q.2))) : ej_Z cX7_fewestAside 5 (some .int) RX7 "fewestAside" (e + 1) 0 [(0, .ref 22), (1, .int v1)] [] (ej_sh, m) res := by
  unfold f_X7_fewestAside at hf
  refine z_iload_n (pc := 0) (i := 1) (j := 1) dX7_fewestAside_0 rfl rfl ?_
  obtain ⟨q1, hq1, hf⟩ := Option.bind_eq_some_iff.mp hf
  refine z_oSi (pc := 1) (as := [.int v1]) (rest := []) dX7_fewestAside_1 lm_RX7_36 mf_J6_bitCount_0f7a4 ms_J6_bitCount_0f7a4 rfl rfl (Nat.le_of_ble_eq_true rfl) (c_J6_bitCount_0f7a4 e (by omega) v1 m hq1) ?_
  refine z_istore_n (pc := 4) (i := 2) (ls' := [(2, .int q1.1), (0, .ref 22), (1, .int v1)]) dX7_fewestAside_4 rfl (Nat.le_of_ble_eq_true rfl) rfl ?_
  refine z_iconst (pc := 5) dX7_fewestAside_5 ki_0 ?_
  refine z_istore_n (pc := 6) (i := 3) (ls' := [(3, .int 0), (2, .int q1.1), (0, .ref 22), (1, .int v1)]) dX7_fewestAside_6 rfl (Nat.le_of_ble_eq_true rfl) rfl ?_
  exact z_pick [2, 3, 1, 0] rfl (b_X7_fewestAside_L7 e hd v1 q1.1 0 q1.2 (K := K) hf hK  h0)
set_option maxHeartbeats 4000000 in
set_option maxRecDepth 100000 in
theorem c_X7_fewestAside (d : Nat) (hd : 6 ≤ d) (v1 : Int32) (m : ej_M) {q : (Int32 × ej_M)} (hf : f_X7_fewestAside v1 m = some q) : ej_Ct yX7_fewestAside cX7_fewestAside 5 (some .int) d [.ref 22, .int v1] (ej_sh, m) ((some (Value.int q.1), (ej_sh, q.2)) : Option Value × ej_H) := by
  obtain ⟨e, rfl⟩ : ∃ e, d = e + 1 := ⟨d - 1, by omega⟩
  exact z_met (by decide +kernel) (Nat.le_of_ble_eq_true rfl) (b_X7_fewestAside e (by omega) v1 m (K := fun z => ((some (Value.int q.1), (ej_sh, q.2)) : Option Value × ej_H) = (some (Value.int z.1), (ej_sh, z.2))) hf rfl (fun _ h => h))
def f_X10_aside (v1 : Int32) (m : ej_M) : Option (Int32 × ej_M) :=
  (f_X4_isSet v1 m).bind fun q1 =>
  if q1.1 = 0 then
    some ((-1), q1.2)
  else
    if v1 = 0 then
      some ((-1), q1.2)
    else
      (f_X7_fewestAside v1 q1.2).bind fun q2 =>
      some (q2.1, q2.2)
set_option maxHeartbeats 4000000 in
set_option maxRecDepth 100000 in
theorem b_X10_aside (e : Nat) (hd : 6 ≤ e) (v1 : Int32) (m : ej_M) {x : (Int32 × ej_M)} {res : Option Value × ej_H} {K : (Int32 × ej_M) → Prop} (hf : f_X10_aside v1 m = some x) (hK : K x) (h0 : ∀ q : (Int32 × ej_M), K q → res = (some (Value.int q.1), (ej_sh, q.2))) : ej_Z cX10_aside 2 (some .int) RX10 "aside" (e + 1) 0 [(0, .ref 0), (1, .int v1)] [] (ej_sh, m) res := by
  unfold f_X10_aside at hf
  refine z_aload_n (pc := 0) (i := 0) (j := 0) dX10_aside_0 rfl rfl ?_
  refine z_ogetR (pc := 1) dX10_aside_1 lf_RX10_21 sh_0 rfl rfl rfl ?_
  refine z_iload_n (pc := 4) (i := 1) (j := 1) dX10_aside_4 rfl rfl ?_
  obtain ⟨q1, hq1, hf⟩ := Option.bind_eq_some_iff.mp hf
  refine z_oVi (pc := 5) (as := [.int v1]) (rest := []) dX10_aside_5 lm_RX10_183 mf_X4_isSet mi_X4_isSet mv_X4_isSet rc_6 rfl rfl (Nat.le_of_ble_eq_true rfl) (c_X4_isSet e (by omega) v1 m hq1) ?_
  refine z_if_eq (pc := 8) (tgt := 26) dX10_aside_8 (by decide) (fun hc => ?_) (fun hc => ?_)
  · rw [if_pos hc] at hf
    refine z_iconst (pc := 26) dX10_aside_26 ki_n1 ?_
    obtain rfl := Option.some.inj hf
    rw [h0 _ hK]
    exact z_iret dX10_aside_27 rfl rfl
  · rw [if_neg hc] at hf
    refine z_iload_n (pc := 11) (i := 1) (j := 1) dX10_aside_11 rfl rfl ?_
    refine z_if_eq (pc := 12) (tgt := 26) dX10_aside_12 (by decide) (fun hc => ?_) (fun hc => ?_)
    · rw [if_pos hc] at hf
      refine z_iconst (pc := 26) dX10_aside_26 ki_n1 ?_
      obtain rfl := Option.some.inj hf
      rw [h0 _ hK]
      exact z_iret dX10_aside_27 rfl rfl
    · rw [if_neg hc] at hf
      refine z_aload_n (pc := 15) (i := 0) (j := 0) dX10_aside_15 rfl rfl ?_
      refine z_ogetR (pc := 16) dX10_aside_16 lf_RX10_51 sh_0 rfl rfl rfl ?_
      refine z_iload_n (pc := 19) (i := 1) (j := 1) dX10_aside_19 rfl rfl ?_
      obtain ⟨q2, hq2, hf⟩ := Option.bind_eq_some_iff.mp hf
      refine z_oVi (pc := 20) (as := [.int v1]) (rest := []) dX10_aside_20 lm_RX10_216 mf_X7_fewestAside mi_X7_fewestAside mv_X7_fewestAside rc_22 rfl rfl (Nat.le_of_ble_eq_true rfl) (c_X7_fewestAside e (by omega) v1 q1.2 hq2) ?_
      refine z_goto (pc := 23) (tgt := 27) dX10_aside_23 (by decide) ?_
      obtain rfl := Option.some.inj hf
      rw [h0 _ hK]
      exact z_iret dX10_aside_27 rfl rfl
set_option maxHeartbeats 4000000 in
set_option maxRecDepth 100000 in
theorem c_X10_aside (d : Nat) (hd : 7 ≤ d) (v1 : Int32) (m : ej_M) {q : (Int32 × ej_M)} (hf : f_X10_aside v1 m = some q) : ej_Ct yX10_aside cX10_aside 2 (some .int) d [.ref 0, .int v1] (ej_sh, m) ((some (Value.int q.1), (ej_sh, q.2)) : Option Value × ej_H) := by
  obtain ⟨e, rfl⟩ : ∃ e, d = e + 1 := ⟨d - 1, by omega⟩
  exact z_met (by decide +kernel) (Nat.le_of_ble_eq_true rfl) (b_X10_aside e (by omega) v1 m (K := fun z => ((some (Value.int q.1), (ej_sh, q.2)) : Option Value × ej_H) = (some (Value.int z.1), (ej_sh, z.2))) hf rfl (fun _ h => h))
def f_X11_aside_L18b (v1 : Int32) (v2 : Int32) (v3 : Int32) (m : ej_M) : Option ((Int32 × Int32 × ej_M) ⊕ (Int32 × ej_M)) :=
  if v1 ≤ v3 then
    some (Sum.inr (v2, m))
  else
    if (v3 &&& (v1 ^^^ (-1))) = 0 then
      (f_X11_bitsOf v3 m).bind fun q1 =>
      (f_X11_bitsOf v2 q1.2).bind fun q2 =>
      if q2.1 ≤ q1.1 then
        some (Sum.inl (v2, (v3 + 1), q2.2))
      else
        (f_X11_endsOf (v1 &&& (v3 ^^^ (-1))) q2.2).bind fun q3 =>
        if q3.1 < 0 then
          some (Sum.inl (v2, (v3 + 1), q3.2))
        else
          some (Sum.inl (v3, (v3 + 1), q3.2))
    else
      some (Sum.inl (v2, (v3 + 1), m))
set_option maxHeartbeats 4000000 in
set_option maxRecDepth 100000 in
theorem b_X11_aside_L18b (e : Nat) (hd : 5 ≤ e) (v1 : Int32) (v2 : Int32) (v3 : Int32) (m : ej_M) {x : ((Int32 × Int32 × ej_M) ⊕ (Int32 × ej_M))} {res : Option Value × ej_H} {K : ((Int32 × Int32 × ej_M) ⊕ (Int32 × ej_M)) → Prop} (hf : f_X11_aside_L18b v1 v2 v3 m = some x) (hK : K x) (h1 : ∀ q : (Int32 × Int32 × ej_M), K (Sum.inl q) → ej_Z cX11_aside 4 (some .int) RX11 "aside" (e + 1) 18 [(0, .ref 41), (1, .int v1), (2, .int q.1), (3, .int q.2.1)] [] (ej_sh, q.2.2) res) (h0 : ∀ q : (Int32 × ej_M), K (Sum.inr q) → res = (some (Value.int q.1), (ej_sh, q.2))) : ej_Z cX11_aside 4 (some .int) RX11 "aside" (e + 1) 18 [(0, .ref 41), (1, .int v1), (2, .int v2), (3, .int v3)] [] (ej_sh, m) res := by
  unfold f_X11_aside_L18b at hf
  refine z_iload_n (pc := 18) (i := 3) (j := 3) dX11_aside_18 rfl rfl ?_
  refine z_iload_n (pc := 19) (i := 1) (j := 1) dX11_aside_19 rfl rfl ?_
  refine z_icmp_ge (pc := 20) (tgt := 62) dX11_aside_20 (by decide) (fun hc => ?_) (fun hc => ?_)
  · rw [if_pos hc] at hf
    refine z_iload_n (pc := 62) (i := 2) (j := 2) dX11_aside_62 rfl rfl ?_
    obtain rfl := Option.some.inj hf
    rw [h0 _ hK]
    exact z_iret dX11_aside_63 rfl rfl
  · rw [if_neg hc] at hf
    refine z_iload_n (pc := 23) (i := 3) (j := 3) dX11_aside_23 rfl rfl ?_
    refine z_iload_n (pc := 24) (i := 1) (j := 1) dX11_aside_24 rfl rfl ?_
    refine z_iconst (pc := 25) dX11_aside_25 ki_n1 ?_
    refine z_ixor (pc := 26) dX11_aside_26 ?_
    refine z_iand (pc := 27) dX11_aside_27 ?_
    refine z_if_ne (pc := 28) (tgt := 56) dX11_aside_28 (by decide) (fun hc => ?_) (fun hc => ?_)
    · rw [if_neg hc] at hf
      refine z_iinc (pc := 56) (j := 3) (ls' := [(3, .int (v3 + 1)), (0, .ref 41), (1, .int v1), (2, .int v2)]) dX11_aside_56 rfl ki_1 (Nat.le_of_ble_eq_true rfl) rfl ?_
      refine z_goto (pc := 59) (tgt := 18) dX11_aside_59 (by decide) ?_
      obtain rfl := Option.some.inj hf
      exact z_pick (ls' := [(0, .ref 41), (1, .int v1), (2, .int v2), (3, .int (v3 + 1))]) [1, 2, 3, 0] rfl (h1 (v2, (v3 + 1), m) hK)
    · rw [if_pos hc] at hf
      refine z_iload_n (pc := 31) (i := 3) (j := 3) dX11_aside_31 rfl rfl ?_
      obtain ⟨q1, hq1, hf⟩ := Option.bind_eq_some_iff.mp hf
      refine z_oSi (pc := 32) (as := [.int v3]) (rest := []) dX11_aside_32 lm_RX11_266 mf_X11_bitsOf ms_X11_bitsOf rfl rfl (Nat.le_of_ble_eq_true rfl) (c_X11_bitsOf e (by omega) v3 m hq1) ?_
      refine z_iload_n (pc := 35) (i := 2) (j := 2) dX11_aside_35 rfl rfl ?_
      obtain ⟨q2, hq2, hf⟩ := Option.bind_eq_some_iff.mp hf
      refine z_oSi (pc := 36) (as := [.int v2]) (rest := [.int q1.1]) dX11_aside_36 lm_RX11_266 mf_X11_bitsOf ms_X11_bitsOf rfl rfl (Nat.le_of_ble_eq_true rfl) (c_X11_bitsOf e (by omega) v2 q1.2 hq2) ?_
      refine z_icmp_ge (pc := 39) (tgt := 56) dX11_aside_39 (by decide) (fun hc => ?_) (fun hc => ?_)
      · rw [if_pos hc] at hf
        refine z_iinc (pc := 56) (j := 3) (ls' := [(3, .int (v3 + 1)), (0, .ref 41), (1, .int v1), (2, .int v2)]) dX11_aside_56 rfl ki_1 (Nat.le_of_ble_eq_true rfl) rfl ?_
        refine z_goto (pc := 59) (tgt := 18) dX11_aside_59 (by decide) ?_
        obtain rfl := Option.some.inj hf
        exact z_pick (ls' := [(0, .ref 41), (1, .int v1), (2, .int v2), (3, .int (v3 + 1))]) [1, 2, 3, 0] rfl (h1 (v2, (v3 + 1), q2.2) hK)
      · rw [if_neg hc] at hf
        refine z_aload_n (pc := 42) (i := 0) (j := 0) dX11_aside_42 rfl rfl ?_
        refine z_iload_n (pc := 43) (i := 1) (j := 1) dX11_aside_43 rfl rfl ?_
        refine z_iload_n (pc := 44) (i := 3) (j := 3) dX11_aside_44 rfl rfl ?_
        refine z_iconst (pc := 45) dX11_aside_45 ki_n1 ?_
        refine z_ixor (pc := 46) dX11_aside_46 ?_
        refine z_iand (pc := 47) dX11_aside_47 ?_
        obtain ⟨q3, hq3, hf⟩ := Option.bind_eq_some_iff.mp hf
        refine z_oVi (pc := 48) (as := [.int (v1 &&& (v3 ^^^ (-1)))]) (rest := []) dX11_aside_48 lm_RX11_294 mf_X11_endsOf mi_X11_endsOf mv_X11_endsOf rc_41 rfl rfl (Nat.le_of_ble_eq_true rfl) (c_X11_endsOf e (by omega) (v1 &&& (v3 ^^^ (-1))) q2.2 hq3) ?_
        refine z_if_lt (pc := 51) (tgt := 56) dX11_aside_51 (by decide) (fun hc => ?_) (fun hc => ?_)
        · rw [if_pos hc] at hf
          refine z_iinc (pc := 56) (j := 3) (ls' := [(3, .int (v3 + 1)), (0, .ref 41), (1, .int v1), (2, .int v2)]) dX11_aside_56 rfl ki_1 (Nat.le_of_ble_eq_true rfl) rfl ?_
          refine z_goto (pc := 59) (tgt := 18) dX11_aside_59 (by decide) ?_
          obtain rfl := Option.some.inj hf
          exact z_pick (ls' := [(0, .ref 41), (1, .int v1), (2, .int v2), (3, .int (v3 + 1))]) [1, 2, 3, 0] rfl (h1 (v2, (v3 + 1), q3.2) hK)
        · rw [if_neg hc] at hf
          refine z_iload_n (pc := 54) (i := 3) (j := 3) dX11_aside_54 rfl rfl ?_
          refine z_istore_n (pc := 55) (i := 2) (ls' := [(2, .int v3), (0, .ref 41), (1, .int v1), (3, .int v3)]) dX11_aside_55 rfl (Nat.le_of_ble_eq_true rfl) rfl ?_
          refine z_iinc (pc := 56) (j := 3) (ls' := [(3, .int (v3 + 1)), (2, .int v3), (0, .ref 41), (1, .int v1)]) dX11_aside_56 rfl ki_1 (Nat.le_of_ble_eq_true rfl) rfl ?_
          refine z_goto (pc := 59) (tgt := 18) dX11_aside_59 (by decide) ?_
          obtain rfl := Option.some.inj hf
          exact z_pick (ls' := [(0, .ref 41), (1, .int v1), (2, .int v3), (3, .int (v3 + 1))]) [2, 3, 1, 0] rfl (h1 (v3, (v3 + 1), q3.2) hK)
def f_X11_aside_L18 (v1 : Int32) (v2 : Int32) (v3 : Int32) (m : ej_M) : Option (Int32 × ej_M) := oj_loop (fun q : (Int32 × Int32 × ej_M) => f_X11_aside_L18b v1 q.1 q.2.1 q.2.2) oj_FU (v2, v3, m)
set_option maxHeartbeats 4000000 in
set_option maxRecDepth 100000 in
theorem b_X11_aside_L18 (e : Nat) (hd : 5 ≤ e) (v1 : Int32) (v2 : Int32) (v3 : Int32) (m : ej_M) {x : (Int32 × ej_M)} {res : Option Value × ej_H} {K : (Int32 × ej_M) → Prop} (hf : f_X11_aside_L18 v1 v2 v3 m = some x) (hK : K x) (h0 : ∀ q : (Int32 × ej_M), K q → res = (some (Value.int q.1), (ej_sh, q.2))) : ej_Z cX11_aside 4 (some .int) RX11 "aside" (e + 1) 18 [(0, .ref 41), (1, .int v1), (2, .int v2), (3, .int v3)] [] (ej_sh, m) res :=
  oj_loop_Z (body := fun q : (Int32 × Int32 × ej_M) => f_X11_aside_L18b v1 q.1 q.2.1 q.2.2) (P := fun q : (Int32 × Int32 × ej_M) => ej_Z cX11_aside 4 (some .int) RX11 "aside" (e + 1) 18 [(0, .ref 41), (1, .int v1), (2, .int q.1), (3, .int q.2.1)] [] (ej_sh, q.2.2) res) (K := K) (fun s x hb hl hr => b_X11_aside_L18b e hd v1  s.1 s.2.1 s.2.2 (K := fun x => (∀ s' : (Int32 × Int32 × ej_M), x = Sum.inl s' → ej_Z cX11_aside 4 (some .int) RX11 "aside" (e + 1) 18 [(0, .ref 41), (1, .int v1), (2, .int s'.1), (3, .int s'.2.1)] [] (ej_sh, s'.2.2) res) ∧ ∀ e, x = Sum.inr e → K e) hb ⟨hl, hr⟩ (fun q hq => hq.1 q rfl) (fun q hq => h0 q (hq.2 _ rfl))) oj_FU (v2, v3, m) x hf hK
def f_X11_aside (v1 : Int32) (m : ej_M) : Option (Int32 × ej_M) :=
  (f_X11_isSet v1 m).bind fun q1 =>
  if q1.1 = 0 then
    some ((-1), q1.2)
  else
    if v1 = 0 then
      some ((-1), q1.2)
    else
      f_X11_aside_L18 v1 v1 0 q1.2
set_option maxHeartbeats 4000000 in
set_option maxRecDepth 100000 in
theorem b_X11_aside (e : Nat) (hd : 5 ≤ e) (v1 : Int32) (m : ej_M) {x : (Int32 × ej_M)} {res : Option Value × ej_H} {K : (Int32 × ej_M) → Prop} (hf : f_X11_aside v1 m = some x) (hK : K x) (h0 : ∀ q : (Int32 × ej_M), K q → res = (some (Value.int q.1), (ej_sh, q.2))) : ej_Z cX11_aside 4 (some .int) RX11 "aside" (e + 1) 0 [(0, .ref 41), (1, .int v1)] [] (ej_sh, m) res := by
  unfold f_X11_aside at hf
  refine z_aload_n (pc := 0) (i := 0) (j := 0) dX11_aside_0 rfl rfl ?_
  refine z_iload_n (pc := 1) (i := 1) (j := 1) dX11_aside_1 rfl rfl ?_
  obtain ⟨q1, hq1, hf⟩ := Option.bind_eq_some_iff.mp hf
  refine z_oVi (pc := 2) (as := [.int v1]) (rest := []) dX11_aside_2 lm_RX11_276 mf_X11_isSet mi_X11_isSet mv_X11_isSet rc_41 rfl rfl (Nat.le_of_ble_eq_true rfl) (c_X11_isSet e (by omega) v1 m hq1) ?_
  refine z_if_eq (pc := 5) (tgt := 12) dX11_aside_5 (by decide) (fun hc => ?_) (fun hc => ?_)
  · rw [if_pos hc] at hf
    refine z_iconst (pc := 12) dX11_aside_12 ki_n1 ?_
    obtain rfl := Option.some.inj hf
    rw [h0 _ hK]
    exact z_iret dX11_aside_13 rfl rfl
  · rw [if_neg hc] at hf
    refine z_iload_n (pc := 8) (i := 1) (j := 1) dX11_aside_8 rfl rfl ?_
    refine z_if_ne (pc := 9) (tgt := 14) dX11_aside_9 (by decide) (fun hc => ?_) (fun hc => ?_)
    · rw [if_neg hc] at hf
      refine z_iload_n (pc := 14) (i := 1) (j := 1) dX11_aside_14 rfl rfl ?_
      refine z_istore_n (pc := 15) (i := 2) (ls' := [(2, .int v1), (0, .ref 41), (1, .int v1)]) dX11_aside_15 rfl (Nat.le_of_ble_eq_true rfl) rfl ?_
      refine z_iconst (pc := 16) dX11_aside_16 ki_0 ?_
      refine z_istore_n (pc := 17) (i := 3) (ls' := [(3, .int 0), (2, .int v1), (0, .ref 41), (1, .int v1)]) dX11_aside_17 rfl (Nat.le_of_ble_eq_true rfl) rfl ?_
      exact z_pick [2, 3, 1, 0] rfl (b_X11_aside_L18 e hd v1 v1 0 q1.2 (K := K) hf hK  h0)
    · rw [if_pos hc] at hf
      refine z_iconst (pc := 12) dX11_aside_12 ki_n1 ?_
      obtain rfl := Option.some.inj hf
      rw [h0 _ hK]
      exact z_iret dX11_aside_13 rfl rfl
set_option maxHeartbeats 4000000 in
set_option maxRecDepth 100000 in
theorem c_X11_aside (d : Nat) (hd : 6 ≤ d) (v1 : Int32) (m : ej_M) {q : (Int32 × ej_M)} (hf : f_X11_aside v1 m = some q) : ej_Ct yX11_aside cX11_aside 4 (some .int) d [.ref 41, .int v1] (ej_sh, m) ((some (Value.int q.1), (ej_sh, q.2)) : Option Value × ej_H) := by
  obtain ⟨e, rfl⟩ : ∃ e, d = e + 1 := ⟨d - 1, by omega⟩
  exact z_met (by decide +kernel) (Nat.le_of_ble_eq_true rfl) (b_X11_aside e (by omega) v1 m (K := fun z => ((some (Value.int q.1), (ej_sh, q.2)) : Option Value × ej_H) = (some (Value.int z.1), (ej_sh, z.2))) hf rfl (fun _ h => h))
def f_X5_all  (m : ej_M) : Option (Int32 × ej_M) :=
  some (((1 <<< ((m.1 6 4) &&& 31)) - 1), m)
set_option maxHeartbeats 4000000 in
set_option maxRecDepth 100000 in
theorem b_X5_all (d : Nat)  (m : ej_M) {x : (Int32 × ej_M)} {res : Option Value × ej_H} {K : (Int32 × ej_M) → Prop} (hf : f_X5_all  m = some x) (hK : K x) (h0 : ∀ q : (Int32 × ej_M), K q → res = (some (Value.int q.1), (ej_sh, q.2))) : ej_Z cX5_all 1 (some .int) RX5 "all" d 0 [(0, .ref 25)] [] (ej_sh, m) res := by
  unfold f_X5_all at hf
  refine z_iconst (pc := 0) dX5_all_0 ki_1 ?_
  refine z_aload_n (pc := 1) (i := 0) (j := 0) dX5_all_1 rfl rfl ?_
  refine z_ogetR (pc := 2) dX5_all_2 lf_RX5_18 sh_25 rfl rfl rfl ?_
  refine z_ogetI (pc := 5) dX5_all_5 lf_RX5_22 sh_6 rfl rfl ?_
  refine z_ishl (pc := 8) dX5_all_8 ?_
  refine z_iconst (pc := 9) dX5_all_9 ki_1 ?_
  refine z_isub (pc := 10) dX5_all_10 ?_
  obtain rfl := Option.some.inj hf
  rw [h0 _ hK]
  exact z_iret dX5_all_11 rfl rfl
set_option maxHeartbeats 4000000 in
set_option maxRecDepth 100000 in
theorem c_X5_all (d : Nat) (hd : 0 ≤ d)  (m : ej_M) {q : (Int32 × ej_M)} (hf : f_X5_all  m = some q) : ej_Ct yX5_all cX5_all 1 (some .int) d [.ref 25] (ej_sh, m) ((some (Value.int q.1), (ej_sh, q.2)) : Option Value × ej_H) := by
  exact z_met (by decide +kernel) (Nat.le_of_ble_eq_true rfl) (b_X5_all d  m (K := fun z => ((some (Value.int q.1), (ej_sh, q.2)) : Option Value × ej_H) = (some (Value.int z.1), (ej_sh, z.2))) hf rfl (fun _ h => h))
def f_X5_isLawful_L4b (v1 : Int32) (v2 : Int32) (v3 : Int32) (m : ej_M) : Option ((Int32 × Int32 × ej_M) ⊕ (Int32 × ej_M)) :=
  if (m.1 6 4) ≤ v3 then
    (f_X4_isLawful 27 v2 m).bind fun q1 =>
    (oj_rz q1.1 q1.2).map fun y => (Sum.inr y)
  else
    if ((v1 >>> (v3 &&& 31)) &&& 1) = 0 then
      some (Sum.inl (v2, (v3 + 1), m))
    else
      (f_X10_at 8 v3 m).bind fun q2 =>
      (f_X10_lay 27 v2 q2.1 q2.2).bind fun q3 =>
      some (Sum.inl ((v2 + 1), (v3 + 1), q3.2))
set_option maxHeartbeats 4000000 in
set_option maxRecDepth 100000 in
theorem b_X5_isLawful_L4b (e : Nat) (hd : 4 ≤ e) (v1 : Int32) (v2 : Int32) (v3 : Int32) (m : ej_M) {x : ((Int32 × Int32 × ej_M) ⊕ (Int32 × ej_M))} {res : Option Value × ej_H} {K : ((Int32 × Int32 × ej_M) ⊕ (Int32 × ej_M)) → Prop} (hf : f_X5_isLawful_L4b v1 v2 v3 m = some x) (hK : K x) (h1 : ∀ q : (Int32 × Int32 × ej_M), K (Sum.inl q) → ej_Z cX5_isLawful 4 (some .boolean) RX5 "isLawful" (e + 1) 4 [(0, .ref 25), (1, .int v1), (2, .int q.1), (3, .int q.2.1)] [] (ej_sh, q.2.2) res) (h0 : ∀ q : (Int32 × ej_M), K (Sum.inr q) → res = (some (Value.int q.1), (ej_sh, q.2))) : ej_Z cX5_isLawful 4 (some .boolean) RX5 "isLawful" (e + 1) 4 [(0, .ref 25), (1, .int v1), (2, .int v2), (3, .int v3)] [] (ej_sh, m) res := by
  unfold f_X5_isLawful_L4b at hf
  refine z_iload_n (pc := 4) (i := 3) (j := 3) dX5_isLawful_4 rfl rfl ?_
  refine z_aload_n (pc := 5) (i := 0) (j := 0) dX5_isLawful_5 rfl rfl ?_
  refine z_ogetR (pc := 6) dX5_isLawful_6 lf_RX5_18 sh_25 rfl rfl rfl ?_
  refine z_ogetI (pc := 9) dX5_isLawful_9 lf_RX5_22 sh_6 rfl rfl ?_
  refine z_icmp_ge (pc := 12) (tgt := 54) dX5_isLawful_12 (by decide) (fun hc => ?_) (fun hc => ?_)
  · rw [if_pos hc] at hf
    refine z_aload_n (pc := 54) (i := 0) (j := 0) dX5_isLawful_54 rfl rfl ?_
    refine z_ogetR (pc := 55) dX5_isLawful_55 lf_RX5_18 sh_25 rfl rfl rfl ?_
    refine z_aload_n (pc := 58) (i := 0) (j := 0) dX5_isLawful_58 rfl rfl ?_
    refine z_ogetR (pc := 59) dX5_isLawful_59 lf_RX5_15 sh_25 rfl rfl rfl ?_
    refine z_iload_n (pc := 62) (i := 2) (j := 2) dX5_isLawful_62 rfl rfl ?_
    obtain ⟨q1, hq1, hf⟩ := Option.bind_eq_some_iff.mp hf
    refine z_oVi (pc := 63) (as := [.ref 27, .int v2]) (rest := []) dX5_isLawful_63 lm_RX5_51 mf_X4_isLawful mi_X4_isLawful mv_X4_isLawful rc_6 rfl rfl (Nat.le_of_ble_eq_true rfl) (c_X4_isLawful e (by omega) 27 v2 m hq1) ?_
    obtain ⟨y, hy, hxy⟩ := Option.map_eq_some_iff.mp hf
    subst hxy
    rw [h0 _ hK]
    exact z_oretz dX5_isLawful_66 rfl hy
  · rw [if_neg hc] at hf
    refine z_iload_n (pc := 15) (i := 1) (j := 1) dX5_isLawful_15 rfl rfl ?_
    refine z_iload_n (pc := 16) (i := 3) (j := 3) dX5_isLawful_16 rfl rfl ?_
    refine z_ishr (pc := 17) dX5_isLawful_17 ?_
    refine z_iconst (pc := 18) dX5_isLawful_18 ki_1 ?_
    refine z_iand (pc := 19) dX5_isLawful_19 ?_
    refine z_if_ne (pc := 20) (tgt := 26) dX5_isLawful_20 (by decide) (fun hc => ?_) (fun hc => ?_)
    · rw [if_neg hc] at hf
      refine z_aload_n (pc := 26) (i := 0) (j := 0) dX5_isLawful_26 rfl rfl ?_
      refine z_ogetR (pc := 27) dX5_isLawful_27 lf_RX5_15 sh_25 rfl rfl rfl ?_
      refine z_iload_n (pc := 30) (i := 2) (j := 2) dX5_isLawful_30 rfl rfl ?_
      refine z_aload_n (pc := 31) (i := 0) (j := 0) dX5_isLawful_31 rfl rfl ?_
      refine z_ogetR (pc := 32) dX5_isLawful_32 lf_RX5_18 sh_25 rfl rfl rfl ?_
      refine z_ogetR (pc := 35) dX5_isLawful_35 lf_RX5_44 sh_6 rfl rfl rfl ?_
      refine z_iload_n (pc := 38) (i := 3) (j := 3) dX5_isLawful_38 rfl rfl ?_
      obtain ⟨q2, hq2, hf⟩ := Option.bind_eq_some_iff.mp hf
      refine z_oSi (pc := 39) (as := [.ref 8, .int v3]) (rest := [.int v2, .ref 27]) dX5_isLawful_39 lm_RX5_47 mf_X10_at ms_X10_at rfl rfl (Nat.le_of_ble_eq_true rfl) (c_X10_at e (by omega) 8 v3 m hq2) ?_
      obtain ⟨q3, hq3, hf⟩ := Option.bind_eq_some_iff.mp hf
      refine z_oSv (pc := 42) (as := [.ref 27, .int v2, .int q2.1]) (rest := []) dX5_isLawful_42 lm_RX5_40 mf_X10_lay ms_X10_lay rfl rfl (Nat.le_of_ble_eq_true rfl) (c_X10_lay e (by omega) 27 v2 q2.1 q2.2 hq3) ?_
      refine z_iinc (pc := 45) (j := 2) (ls' := [(2, .int (v2 + 1)), (0, .ref 25), (1, .int v1), (3, .int v3)]) dX5_isLawful_45 rfl ki_1 (Nat.le_of_ble_eq_true rfl) rfl ?_
      refine z_iinc (pc := 48) (j := 3) (ls' := [(3, .int (v3 + 1)), (2, .int (v2 + 1)), (0, .ref 25), (1, .int v1)]) dX5_isLawful_48 rfl ki_1 (Nat.le_of_ble_eq_true rfl) rfl ?_
      refine z_goto (pc := 51) (tgt := 4) dX5_isLawful_51 (by decide) ?_
      obtain rfl := Option.some.inj hf
      exact z_pick (ls' := [(0, .ref 25), (1, .int v1), (2, .int (v2 + 1)), (3, .int (v3 + 1))]) [2, 3, 1, 0] rfl (h1 ((v2 + 1), (v3 + 1), q3.2) hK)
    · rw [if_pos hc] at hf
      refine z_goto (pc := 23) (tgt := 48) dX5_isLawful_23 (by decide) ?_
      refine z_iinc (pc := 48) (j := 3) (ls' := [(3, .int (v3 + 1)), (0, .ref 25), (1, .int v1), (2, .int v2)]) dX5_isLawful_48 rfl ki_1 (Nat.le_of_ble_eq_true rfl) rfl ?_
      refine z_goto (pc := 51) (tgt := 4) dX5_isLawful_51 (by decide) ?_
      obtain rfl := Option.some.inj hf
      exact z_pick (ls' := [(0, .ref 25), (1, .int v1), (2, .int v2), (3, .int (v3 + 1))]) [1, 2, 3, 0] rfl (h1 (v2, (v3 + 1), m) hK)
def f_X5_isLawful_L4 (v1 : Int32) (v2 : Int32) (v3 : Int32) (m : ej_M) : Option (Int32 × ej_M) := oj_loop (fun q : (Int32 × Int32 × ej_M) => f_X5_isLawful_L4b v1 q.1 q.2.1 q.2.2) oj_FU (v2, v3, m)
set_option maxHeartbeats 4000000 in
set_option maxRecDepth 100000 in
theorem b_X5_isLawful_L4 (e : Nat) (hd : 4 ≤ e) (v1 : Int32) (v2 : Int32) (v3 : Int32) (m : ej_M) {x : (Int32 × ej_M)} {res : Option Value × ej_H} {K : (Int32 × ej_M) → Prop} (hf : f_X5_isLawful_L4 v1 v2 v3 m = some x) (hK : K x) (h0 : ∀ q : (Int32 × ej_M), K q → res = (some (Value.int q.1), (ej_sh, q.2))) : ej_Z cX5_isLawful 4 (some .boolean) RX5 "isLawful" (e + 1) 4 [(0, .ref 25), (1, .int v1), (2, .int v2), (3, .int v3)] [] (ej_sh, m) res :=
  oj_loop_Z (body := fun q : (Int32 × Int32 × ej_M) => f_X5_isLawful_L4b v1 q.1 q.2.1 q.2.2) (P := fun q : (Int32 × Int32 × ej_M) => ej_Z cX5_isLawful 4 (some .boolean) RX5 "isLawful" (e + 1) 4 [(0, .ref 25), (1, .int v1), (2, .int q.1), (3, .int q.2.1)] [] (ej_sh, q.2.2) res) (K := K) (fun s x hb hl hr => b_X5_isLawful_L4b e hd v1  s.1 s.2.1 s.2.2 (K := fun x => (∀ s' : (Int32 × Int32 × ej_M), x = Sum.inl s' → ej_Z cX5_isLawful 4 (some .boolean) RX5 "isLawful" (e + 1) 4 [(0, .ref 25), (1, .int v1), (2, .int s'.1), (3, .int s'.2.1)] [] (ej_sh, s'.2.2) res) ∧ ∀ e, x = Sum.inr e → K e) hb ⟨hl, hr⟩ (fun q hq => hq.1 q rfl) (fun q hq => h0 q (hq.2 _ rfl))) oj_FU (v2, v3, m) x hf hK
def f_X5_isLawful (v1 : Int32) (m : ej_M) : Option (Int32 × ej_M) :=
  f_X5_isLawful_L4 v1 0 0 m
set_option maxHeartbeats 4000000 in
set_option maxRecDepth 100000 in
theorem b_X5_isLawful (e : Nat) (hd : 4 ≤ e) (v1 : Int32) (m : ej_M) {x : (Int32 × ej_M)} {res : Option Value × ej_H} {K : (Int32 × ej_M) → Prop} (hf : f_X5_isLawful v1 m = some x) (hK : K x) (h0 : ∀ q : (Int32 × ej_M), K q → res = (some (Value.int q.1), (ej_sh, q.2))) : ej_Z cX5_isLawful 4 (some .boolean) RX5 "isLawful" (e + 1) 0 [(0, .ref 25), (1, .int v1)] [] (ej_sh, m) res := by
  unfold f_X5_isLawful at hf
  refine z_iconst (pc := 0) dX5_isLawful_0 ki_0 ?_
  refine z_istore_n (pc := 1) (i := 2) (ls' := [(2, .int 0), (0, .ref 25), (1, .int v1)]) dX5_isLawful_1 rfl (Nat.le_of_ble_eq_true rfl) rfl ?_
  refine z_iconst (pc := 2) dX5_isLawful_2 ki_0 ?_
  refine z_istore_n (pc := 3) (i := 3) (ls' := [(3, .int 0), (2, .int 0), (0, .ref 25), (1, .int v1)]) dX5_isLawful_3 rfl (Nat.le_of_ble_eq_true rfl) rfl ?_
  exact z_pick [2, 3, 1, 0] rfl (b_X5_isLawful_L4 e hd v1 0 0 m (K := K) hf hK  h0)
set_option maxHeartbeats 4000000 in
set_option maxRecDepth 100000 in
theorem c_X5_isLawful (d : Nat) (hd : 5 ≤ d) (v1 : Int32) (m : ej_M) {q : (Int32 × ej_M)} (hf : f_X5_isLawful v1 m = some q) : ej_Ct yX5_isLawful cX5_isLawful 4 (some .boolean) d [.ref 25, .int v1] (ej_sh, m) ((some (Value.int q.1), (ej_sh, q.2)) : Option Value × ej_H) := by
  obtain ⟨e, rfl⟩ : ∃ e, d = e + 1 := ⟨d - 1, by omega⟩
  exact z_met (by decide +kernel) (Nat.le_of_ble_eq_true rfl) (b_X5_isLawful e (by omega) v1 m (K := fun z => ((some (Value.int q.1), (ej_sh, q.2)) : Option Value × ej_H) = (some (Value.int z.1), (ej_sh, z.2))) hf rfl (fun _ h => h))
def f_X5_mostFrom_L4b (v1 : Int32) (v2 : Int32) (v3 : Int32) (m : ej_M) : Option ((Int32 × Int32 × ej_M) ⊕ (Int32 × ej_M)) :=
  if (m.1 6 4) ≤ v3 then
    some (Sum.inr (v2, m))
  else
    if ((v1 >>> (v3 &&& 31)) &&& 1) = 1 then
      (f_X10_at 26 (v1 &&& ((1 <<< (v3 &&& 31)) ^^^ (-1))) m).bind fun q1 =>
      some (Sum.inl ((if v2 < (q1.1 + 1) then (q1.1 + 1) else v2), (v3 + 1), q1.2))
    else
      some (Sum.inl (v2, (v3 + 1), m))
set_option maxHeartbeats 4000000 in
set_option maxRecDepth 100000 in
theorem b_X5_mostFrom_L4b (e : Nat) (hd : 0 ≤ e) (v1 : Int32) (v2 : Int32) (v3 : Int32) (m : ej_M) {x : ((Int32 × Int32 × ej_M) ⊕ (Int32 × ej_M))} {res : Option Value × ej_H} {K : ((Int32 × Int32 × ej_M) ⊕ (Int32 × ej_M)) → Prop} (hf : f_X5_mostFrom_L4b v1 v2 v3 m = some x) (hK : K x) (h1 : ∀ q : (Int32 × Int32 × ej_M), K (Sum.inl q) → ej_Z cX5_mostFrom 4 (some .int) RX5 "mostFrom" (e + 1) 4 [(0, .ref 25), (1, .int v1), (2, .int q.1), (3, .int q.2.1)] [] (ej_sh, q.2.2) res) (h0 : ∀ q : (Int32 × ej_M), K (Sum.inr q) → res = (some (Value.int q.1), (ej_sh, q.2))) : ej_Z cX5_mostFrom 4 (some .int) RX5 "mostFrom" (e + 1) 4 [(0, .ref 25), (1, .int v1), (2, .int v2), (3, .int v3)] [] (ej_sh, m) res := by
  unfold f_X5_mostFrom_L4b at hf
  refine z_iload_n (pc := 4) (i := 3) (j := 3) dX5_mostFrom_4 rfl rfl ?_
  refine z_aload_n (pc := 5) (i := 0) (j := 0) dX5_mostFrom_5 rfl rfl ?_
  refine z_ogetR (pc := 6) dX5_mostFrom_6 lf_RX5_18 sh_25 rfl rfl rfl ?_
  refine z_ogetI (pc := 9) dX5_mostFrom_9 lf_RX5_22 sh_6 rfl rfl ?_
  refine z_icmp_ge (pc := 12) (tgt := 51) dX5_mostFrom_12 (by decide) (fun hc => ?_) (fun hc => ?_)
  · rw [if_pos hc] at hf
    refine z_iload_n (pc := 51) (i := 2) (j := 2) dX5_mostFrom_51 rfl rfl ?_
    obtain rfl := Option.some.inj hf
    rw [h0 _ hK]
    exact z_iret dX5_mostFrom_52 rfl rfl
  · rw [if_neg hc] at hf
    refine z_iload_n (pc := 15) (i := 1) (j := 1) dX5_mostFrom_15 rfl rfl ?_
    refine z_iload_n (pc := 16) (i := 3) (j := 3) dX5_mostFrom_16 rfl rfl ?_
    refine z_ishr (pc := 17) dX5_mostFrom_17 ?_
    refine z_iconst (pc := 18) dX5_mostFrom_18 ki_1 ?_
    refine z_iand (pc := 19) dX5_mostFrom_19 ?_
    refine z_iconst (pc := 20) dX5_mostFrom_20 ki_1 ?_
    refine z_icmp_ne (pc := 21) (tgt := 45) dX5_mostFrom_21 (by decide) (fun hc => ?_) (fun hc => ?_)
    · rw [if_neg hc] at hf
      refine z_iinc (pc := 45) (j := 3) (ls' := [(3, .int (v3 + 1)), (0, .ref 25), (1, .int v1), (2, .int v2)]) dX5_mostFrom_45 rfl ki_1 (Nat.le_of_ble_eq_true rfl) rfl ?_
      refine z_goto (pc := 48) (tgt := 4) dX5_mostFrom_48 (by decide) ?_
      obtain rfl := Option.some.inj hf
      exact z_pick (ls' := [(0, .ref 25), (1, .int v1), (2, .int v2), (3, .int (v3 + 1))]) [1, 2, 3, 0] rfl (h1 (v2, (v3 + 1), m) hK)
    · rw [if_pos hc] at hf
      refine z_iload_n (pc := 24) (i := 2) (j := 2) dX5_mostFrom_24 rfl rfl ?_
      refine z_aload_n (pc := 25) (i := 0) (j := 0) dX5_mostFrom_25 rfl rfl ?_
      refine z_ogetR (pc := 26) dX5_mostFrom_26 lf_RX5_9 sh_25 rfl rfl rfl ?_
      refine z_iload_n (pc := 29) (i := 1) (j := 1) dX5_mostFrom_29 rfl rfl ?_
      refine z_iconst (pc := 30) dX5_mostFrom_30 ki_1 ?_
      refine z_iload_n (pc := 31) (i := 3) (j := 3) dX5_mostFrom_31 rfl rfl ?_
      refine z_ishl (pc := 32) dX5_mostFrom_32 ?_
      refine z_iconst (pc := 33) dX5_mostFrom_33 ki_n1 ?_
      refine z_ixor (pc := 34) dX5_mostFrom_34 ?_
      refine z_iand (pc := 35) dX5_mostFrom_35 ?_
      obtain ⟨q1, hq1, hf⟩ := Option.bind_eq_some_iff.mp hf
      refine z_oSi (pc := 36) (as := [.ref 26, .int (v1 &&& ((1 <<< (v3 &&& 31)) ^^^ (-1)))]) (rest := [.int v2]) dX5_mostFrom_36 lm_RX5_47 mf_X10_at ms_X10_at rfl rfl (Nat.le_of_ble_eq_true rfl) (c_X10_at e (by omega) 26 (v1 &&& ((1 <<< (v3 &&& 31)) ^^^ (-1))) m hq1) ?_
      refine z_iconst (pc := 39) dX5_mostFrom_39 ki_1 ?_
      refine z_iadd (pc := 40) dX5_mostFrom_40 ?_
      refine z_mmax (pc := 41) dX5_mostFrom_41 lx_RX5_54 mx_max.1 mx_max.2.1 mx_max.2.2 (Nat.le_of_ble_eq_true rfl) ?_
      refine z_istore_n (pc := 44) (i := 2) (ls' := [(2, .int (if v2 < (q1.1 + 1) then (q1.1 + 1) else v2)), (0, .ref 25), (1, .int v1), (3, .int v3)]) dX5_mostFrom_44 rfl (Nat.le_of_ble_eq_true rfl) rfl ?_
      refine z_iinc (pc := 45) (j := 3) (ls' := [(3, .int (v3 + 1)), (2, .int (if v2 < (q1.1 + 1) then (q1.1 + 1) else v2)), (0, .ref 25), (1, .int v1)]) dX5_mostFrom_45 rfl ki_1 (Nat.le_of_ble_eq_true rfl) rfl ?_
      refine z_goto (pc := 48) (tgt := 4) dX5_mostFrom_48 (by decide) ?_
      obtain rfl := Option.some.inj hf
      exact z_pick (ls' := [(0, .ref 25), (1, .int v1), (2, .int (if v2 < (q1.1 + 1) then (q1.1 + 1) else v2)), (3, .int (v3 + 1))]) [2, 3, 1, 0] rfl (h1 ((if v2 < (q1.1 + 1) then (q1.1 + 1) else v2), (v3 + 1), q1.2) hK)
def f_X5_mostFrom_L4 (v1 : Int32) (v2 : Int32) (v3 : Int32) (m : ej_M) : Option (Int32 × ej_M) := oj_loop (fun q : (Int32 × Int32 × ej_M) => f_X5_mostFrom_L4b v1 q.1 q.2.1 q.2.2) oj_FU (v2, v3, m)
set_option maxHeartbeats 4000000 in
set_option maxRecDepth 100000 in
theorem b_X5_mostFrom_L4 (e : Nat) (hd : 0 ≤ e) (v1 : Int32) (v2 : Int32) (v3 : Int32) (m : ej_M) {x : (Int32 × ej_M)} {res : Option Value × ej_H} {K : (Int32 × ej_M) → Prop} (hf : f_X5_mostFrom_L4 v1 v2 v3 m = some x) (hK : K x) (h0 : ∀ q : (Int32 × ej_M), K q → res = (some (Value.int q.1), (ej_sh, q.2))) : ej_Z cX5_mostFrom 4 (some .int) RX5 "mostFrom" (e + 1) 4 [(0, .ref 25), (1, .int v1), (2, .int v2), (3, .int v3)] [] (ej_sh, m) res :=
  oj_loop_Z (body := fun q : (Int32 × Int32 × ej_M) => f_X5_mostFrom_L4b v1 q.1 q.2.1 q.2.2) (P := fun q : (Int32 × Int32 × ej_M) => ej_Z cX5_mostFrom 4 (some .int) RX5 "mostFrom" (e + 1) 4 [(0, .ref 25), (1, .int v1), (2, .int q.1), (3, .int q.2.1)] [] (ej_sh, q.2.2) res) (K := K) (fun s x hb hl hr => b_X5_mostFrom_L4b e hd v1  s.1 s.2.1 s.2.2 (K := fun x => (∀ s' : (Int32 × Int32 × ej_M), x = Sum.inl s' → ej_Z cX5_mostFrom 4 (some .int) RX5 "mostFrom" (e + 1) 4 [(0, .ref 25), (1, .int v1), (2, .int s'.1), (3, .int s'.2.1)] [] (ej_sh, s'.2.2) res) ∧ ∀ e, x = Sum.inr e → K e) hb ⟨hl, hr⟩ (fun q hq => hq.1 q rfl) (fun q hq => h0 q (hq.2 _ rfl))) oj_FU (v2, v3, m) x hf hK
def f_X5_mostFrom (v1 : Int32) (m : ej_M) : Option (Int32 × ej_M) :=
  f_X5_mostFrom_L4 v1 0 0 m
set_option maxHeartbeats 4000000 in
set_option maxRecDepth 100000 in
theorem b_X5_mostFrom (e : Nat) (hd : 0 ≤ e) (v1 : Int32) (m : ej_M) {x : (Int32 × ej_M)} {res : Option Value × ej_H} {K : (Int32 × ej_M) → Prop} (hf : f_X5_mostFrom v1 m = some x) (hK : K x) (h0 : ∀ q : (Int32 × ej_M), K q → res = (some (Value.int q.1), (ej_sh, q.2))) : ej_Z cX5_mostFrom 4 (some .int) RX5 "mostFrom" (e + 1) 0 [(0, .ref 25), (1, .int v1)] [] (ej_sh, m) res := by
  unfold f_X5_mostFrom at hf
  refine z_iconst (pc := 0) dX5_mostFrom_0 ki_0 ?_
  refine z_istore_n (pc := 1) (i := 2) (ls' := [(2, .int 0), (0, .ref 25), (1, .int v1)]) dX5_mostFrom_1 rfl (Nat.le_of_ble_eq_true rfl) rfl ?_
  refine z_iconst (pc := 2) dX5_mostFrom_2 ki_0 ?_
  refine z_istore_n (pc := 3) (i := 3) (ls' := [(3, .int 0), (2, .int 0), (0, .ref 25), (1, .int v1)]) dX5_mostFrom_3 rfl (Nat.le_of_ble_eq_true rfl) rfl ?_
  exact z_pick [2, 3, 1, 0] rfl (b_X5_mostFrom_L4 e hd v1 0 0 m (K := K) hf hK  h0)
set_option maxHeartbeats 4000000 in
set_option maxRecDepth 100000 in
theorem c_X5_mostFrom (d : Nat) (hd : 1 ≤ d) (v1 : Int32) (m : ej_M) {q : (Int32 × ej_M)} (hf : f_X5_mostFrom v1 m = some q) : ej_Ct yX5_mostFrom cX5_mostFrom 4 (some .int) d [.ref 25, .int v1] (ej_sh, m) ((some (Value.int q.1), (ej_sh, q.2)) : Option Value × ej_H) := by
  obtain ⟨e, rfl⟩ : ∃ e, d = e + 1 := ⟨d - 1, by omega⟩
  exact z_met (by decide +kernel) (Nat.le_of_ble_eq_true rfl) (b_X5_mostFrom e (by omega) v1 m (K := fun z => ((some (Value.int q.1), (ej_sh, q.2)) : Option Value × ej_H) = (some (Value.int z.1), (ej_sh, z.2))) hf rfl (fun _ h => h))
