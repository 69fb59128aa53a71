def Q_X11_goOrders (Rf : Int32 → ej_M → Option (Unit × ej_M)) (e : Nat) : Prop := (∀ (v1 : Int32) (m : ej_M) (q : (Unit × ej_M)), Rf v1 m = some q → ej_Ct yX11_goOrders cX11_goOrders 4 none e [.ref 41, .int v1] (ej_sh, m) (none, (ej_sh, q.2)))
def f_X11_goOrders_L70b (Rf : (Int32 → ej_M → Option (Unit × ej_M))) (v1 : Int32) (v2 : Int32) (v3 : Int32) (m : ej_M) : Option ((Int32 × ej_M) ⊕ (Unit × ej_M)) :=
  if (m.1 41 1) ≤ v3 then
    some (Sum.inr ((), m))
  else
    if ((v1 >>> (v3 &&& 31)) &&& 1) = 0 then
      some (Sum.inl ((v3 + 1), m))
    else
      (f_X11_fitsBook v2 v3 m).bind fun q1 =>
      if q1.1 = 0 then
        some (Sum.inl ((v3 + 1), q1.2))
      else
        (oj_st 0 q1.2 56 v2 v3).bind fun m2 =>
        (Rf (v1 &&& ((1 <<< (v3 &&& 31)) ^^^ (-1))) m2).bind fun q3 =>
        some (Sum.inl ((v3 + 1), q3.2))
set_option maxHeartbeats 4000000 in
set_option maxRecDepth 100000 in
theorem b_X11_goOrders_L70b (e : Nat) (hd : 4 ≤ e) (Rf : (Int32 → ej_M → Option (Unit × ej_M))) (hR : Q_X11_goOrders Rf e) (v1 : Int32) (v2 : Int32) (v3 : Int32) (m : ej_M) {x : ((Int32 × ej_M) ⊕ (Unit × ej_M))} {res : Option Value × ej_H} {K : ((Int32 × ej_M) ⊕ (Unit × ej_M)) → Prop} (hf : f_X11_goOrders_L70b Rf v1 v2 v3 m = some x) (hK : K x) (h1 : ∀ q : (Int32 × ej_M), K (Sum.inl q) → ej_Z cX11_goOrders 4 none RX11 "goOrders" (e + 1) 70 [(0, .ref 41), (1, .int v1), (2, .int v2), (3, .int q.1)] [] (ej_sh, q.2) res) (h0 : ∀ q : (Unit × ej_M), K (Sum.inr q) → res = (none, (ej_sh, q.2))) : ej_Z cX11_goOrders 4 none RX11 "goOrders" (e + 1) 70 [(0, .ref 41), (1, .int v1), (2, .int v2), (3, .int v3)] [] (ej_sh, m) res := by
  unfold f_X11_goOrders_L70b at hf
  refine z_iload_n (pc := 70) (i := 3) (j := 3) dX11_goOrders_70 rfl rfl ?_
  refine z_aload_n (pc := 71) (i := 0) (j := 0) dX11_goOrders_71 rfl rfl ?_
  refine z_ogetI (pc := 72) dX11_goOrders_72 lf_RX11_101 sh_41 rfl rfl ?_
  refine z_icmp_ge (pc := 75) (tgt := 122) dX11_goOrders_75 (by decide) (fun hc => ?_) (fun hc => ?_)
  · rw [if_pos hc] at hf
    obtain rfl := Option.some.inj hf
    rw [h0 _ hK]
    exact z_ret dX11_goOrders_122 rfl
  · rw [if_neg hc] at hf
    refine z_iload_n (pc := 78) (i := 1) (j := 1) dX11_goOrders_78 rfl rfl ?_
    refine z_iload_n (pc := 79) (i := 3) (j := 3) dX11_goOrders_79 rfl rfl ?_
    refine z_ishr (pc := 80) dX11_goOrders_80 ?_
    refine z_iconst (pc := 81) dX11_goOrders_81 ki_1 ?_
    refine z_iand (pc := 82) dX11_goOrders_82 ?_
    refine z_if_eq (pc := 83) (tgt := 116) dX11_goOrders_83 (by decide) (fun hc => ?_) (fun hc => ?_)
    · rw [if_pos hc] at hf
      refine z_iinc (pc := 116) (j := 3) (ls' := [(3, .int (v3 + 1)), (0, .ref 41), (1, .int v1), (2, .int v2)]) dX11_goOrders_116 rfl ki_1 (Nat.le_of_ble_eq_true rfl) rfl ?_
      refine z_goto (pc := 119) (tgt := 70) dX11_goOrders_119 (by decide) ?_
      obtain rfl := Option.some.inj hf
      exact z_pick (ls' := [(0, .ref 41), (1, .int v1), (2, .int v2), (3, .int (v3 + 1))]) [1, 2, 3, 0] rfl (h1 ((v3 + 1), m) hK)
    · rw [if_neg hc] at hf
      refine z_aload_n (pc := 86) (i := 0) (j := 0) dX11_goOrders_86 rfl rfl ?_
      refine z_iload_n (pc := 87) (i := 2) (j := 2) dX11_goOrders_87 rfl rfl ?_
      refine z_iload_n (pc := 88) (i := 3) (j := 3) dX11_goOrders_88 rfl rfl ?_
      obtain ⟨q1, hq1, hf⟩ := Option.bind_eq_some_iff.mp hf
      refine z_oVi (pc := 89) (as := [.int v2, .int v3]) (rest := []) dX11_goOrders_89 lm_RX11_269 mf_X11_fitsBook mi_X11_fitsBook mv_X11_fitsBook rc_41 rfl rfl (Nat.le_of_ble_eq_true rfl) (c_X11_fitsBook e (by omega) v2 v3 m hq1) ?_
      refine z_if_ne (pc := 92) (tgt := 98) dX11_goOrders_92 (by decide) (fun hc => ?_) (fun hc => ?_)
      · rw [if_neg hc] at hf
        refine z_aload_n (pc := 98) (i := 0) (j := 0) dX11_goOrders_98 rfl rfl ?_
        refine z_ogetR (pc := 99) dX11_goOrders_99 lf_RX11_54 sh_41 rfl rfl rfl ?_
        refine z_iload_n (pc := 102) (i := 2) (j := 2) dX11_goOrders_102 rfl rfl ?_
        refine z_iload_n (pc := 103) (i := 3) (j := 3) dX11_goOrders_103 rfl rfl ?_
        obtain ⟨m2, hm2, hf⟩ := Option.bind_eq_some_iff.mp hf
        refine z_oiast (pc := 104) dX11_goOrders_104 hm2 ?_
        refine z_aload_n (pc := 105) (i := 0) (j := 0) dX11_goOrders_105 rfl rfl ?_
        refine z_iload_n (pc := 106) (i := 1) (j := 1) dX11_goOrders_106 rfl rfl ?_
        refine z_iconst (pc := 107) dX11_goOrders_107 ki_1 ?_
        refine z_iload_n (pc := 108) (i := 3) (j := 3) dX11_goOrders_108 rfl rfl ?_
        refine z_ishl (pc := 109) dX11_goOrders_109 ?_
        refine z_iconst (pc := 110) dX11_goOrders_110 ki_n1 ?_
        refine z_ixor (pc := 111) dX11_goOrders_111 ?_
        refine z_iand (pc := 112) dX11_goOrders_112 ?_
        obtain ⟨q3, hq3, hf⟩ := Option.bind_eq_some_iff.mp hf
        refine z_oVv (pc := 113) (as := [.int (v1 &&& ((1 <<< (v3 &&& 31)) ^^^ (-1)))]) (rest := []) dX11_goOrders_113 lm_RX11_273 mf_X11_goOrders mi_X11_goOrders mv_X11_goOrders rc_41 rfl rfl (Nat.le_of_ble_eq_true rfl) (hR _ _ _ hq3) ?_
        refine z_iinc (pc := 116) (j := 3) (ls' := [(3, .int (v3 + 1)), (0, .ref 41), (1, .int v1), (2, .int v2)]) dX11_goOrders_116 rfl ki_1 (Nat.le_of_ble_eq_true rfl) rfl ?_
        refine z_goto (pc := 119) (tgt := 70) dX11_goOrders_119 (by decide) ?_
        obtain rfl := Option.some.inj hf
        exact z_pick (ls' := [(0, .ref 41), (1, .int v1), (2, .int v2), (3, .int (v3 + 1))]) [1, 2, 3, 0] rfl (h1 ((v3 + 1), q3.2) hK)
      · rw [if_pos hc] at hf
        refine z_goto (pc := 95) (tgt := 116) dX11_goOrders_95 (by decide) ?_
        refine z_iinc (pc := 116) (j := 3) (ls' := [(3, .int (v3 + 1)), (0, .ref 41), (1, .int v1), (2, .int v2)]) dX11_goOrders_116 rfl ki_1 (Nat.le_of_ble_eq_true rfl) rfl ?_
        refine z_goto (pc := 119) (tgt := 70) dX11_goOrders_119 (by decide) ?_
        obtain rfl := Option.some.inj hf
        exact z_pick (ls' := [(0, .ref 41), (1, .int v1), (2, .int v2), (3, .int (v3 + 1))]) [1, 2, 3, 0] rfl (h1 ((v3 + 1), q1.2) hK)
def f_X11_goOrders_L70 (Rf : (Int32 → ej_M → Option (Unit × ej_M))) (v1 : Int32) (v2 : Int32) (v3 : Int32) (m : ej_M) : Option (Unit × ej_M) := oj_loop (fun q : (Int32 × ej_M) => f_X11_goOrders_L70b Rf v1 v2 q.1 q.2) oj_FU (v3, m)
set_option maxHeartbeats 4000000 in
set_option maxRecDepth 100000 in
theorem b_X11_goOrders_L70 (e : Nat) (hd : 4 ≤ e) (Rf : (Int32 → ej_M → Option (Unit × ej_M))) (hR : Q_X11_goOrders Rf e) (v1 : Int32) (v2 : Int32) (v3 : Int32) (m : ej_M) {x : (Unit × ej_M)} {res : Option Value × ej_H} {K : (Unit × ej_M) → Prop} (hf : f_X11_goOrders_L70 Rf v1 v2 v3 m = some x) (hK : K x) (h0 : ∀ q : (Unit × ej_M), K q → res = (none, (ej_sh, q.2))) : ej_Z cX11_goOrders 4 none RX11 "goOrders" (e + 1) 70 [(0, .ref 41), (1, .int v1), (2, .int v2), (3, .int v3)] [] (ej_sh, m) res :=
  oj_loop_Z (body := fun q : (Int32 × ej_M) => f_X11_goOrders_L70b Rf v1 v2 q.1 q.2) (P := fun q : (Int32 × ej_M) => ej_Z cX11_goOrders 4 none RX11 "goOrders" (e + 1) 70 [(0, .ref 41), (1, .int v1), (2, .int v2), (3, .int q.1)] [] (ej_sh, q.2) res) (K := K) (fun s x hb hl hr => b_X11_goOrders_L70b e hd Rf hR v1 v2  s.1 s.2 (K := fun x => (∀ s' : (Int32 × ej_M), x = Sum.inl s' → ej_Z cX11_goOrders 4 none RX11 "goOrders" (e + 1) 70 [(0, .ref 41), (1, .int v1), (2, .int v2), (3, .int s'.1)] [] (ej_sh, s'.2) res) ∧ ∀ e, x = Sum.inr e → K e) hb ⟨hl, hr⟩ (fun q hq => hq.1 q rfl) (fun q hq => h0 q (hq.2 _ rfl))) oj_FU (v3, m) x hf hK
def f_X11_goOrders_B47 (Rf : (Int32 → ej_M → Option (Unit × ej_M)))  (m : ej_M) : Option (Unit × ej_M) :=
  (oj_pf m 41 31 ((m.1 41 31) + 1)).bind fun m1 =>
  some ((), m1)
set_option maxHeartbeats 4000000 in
set_option maxRecDepth 100000 in
theorem b_X11_goOrders_B47 (e : Nat) (hd : 4 ≤ e) (Rf : (Int32 → ej_M → Option (Unit × ej_M))) (hR : Q_X11_goOrders Rf e)  (m : ej_M) {x : (Unit × ej_M)} {res : Option Value × ej_H} {K : (Unit × ej_M) → Prop} (hf : f_X11_goOrders_B47 Rf  m = some x) (hK : K x) (h0 : ∀ q : (Unit × ej_M), K q → res = (none, (ej_sh, q.2))) : ej_Z cX11_goOrders 4 none RX11 "goOrders" (e + 1) 47 [(0, .ref 41)] [] (ej_sh, m) res := by
  unfold f_X11_goOrders_B47 at hf
  refine z_aload_n (pc := 47) (i := 0) (j := 0) dX11_goOrders_47 rfl rfl ?_
  refine z_dup (pc := 48) dX11_goOrders_48 rfl ?_
  refine z_ogetI (pc := 49) dX11_goOrders_49 lf_RX11_263 sh_41 rfl rfl ?_
  refine z_iconst (pc := 52) dX11_goOrders_52 ki_1 ?_
  refine z_iadd (pc := 53) dX11_goOrders_53 ?_
  obtain ⟨m1, hm1, hf⟩ := Option.bind_eq_some_iff.mp hf
  refine z_oputI (pc := 54) dX11_goOrders_54 lf_RX11_263 sh_41 rfl hm1 ?_
  obtain rfl := Option.some.inj hf
  rw [h0 _ hK]
  exact z_ret dX11_goOrders_57 rfl
def f_X11_goOrders_L21b (Rf : (Int32 → ej_M → Option (Unit × ej_M))) (v2 : Int32) (m : ej_M) : Option ((Int32 × ej_M) ⊕ (Unit × ej_M)) :=
  if (m.1 41 29) ≤ v2 then
    (f_X11_goOrders_B47 Rf  m).map fun y => (Sum.inr y)
  else
    (oj_ld 0 m 56 v2).bind fun w1 =>
    (oj_st 0 m 57 v2 w1).bind fun m2 =>
    some (Sum.inl ((v2 + 1), m2))
set_option maxHeartbeats 4000000 in
set_option maxRecDepth 100000 in
theorem b_X11_goOrders_L21b (e : Nat) (hd : 4 ≤ e) (Rf : (Int32 → ej_M → Option (Unit × ej_M))) (hR : Q_X11_goOrders Rf e) (v2 : Int32) (m : ej_M) {x : ((Int32 × ej_M) ⊕ (Unit × ej_M))} {res : Option Value × ej_H} {K : ((Int32 × ej_M) ⊕ (Unit × ej_M)) → Prop} (hf : f_X11_goOrders_L21b Rf v2 m = some x) (hK : K x) (h1 : ∀ q : (Int32 × ej_M), K (Sum.inl q) → ej_Z cX11_goOrders 4 none RX11 "goOrders" (e + 1) 21 [(0, .ref 41), (2, .int q.1)] [] (ej_sh, q.2) res) (h0 : ∀ q : (Unit × ej_M), K (Sum.inr q) → res = (none, (ej_sh, q.2))) : ej_Z cX11_goOrders 4 none RX11 "goOrders" (e + 1) 21 [(0, .ref 41), (2, .int v2)] [] (ej_sh, m) res := by
  unfold f_X11_goOrders_L21b at hf
  refine z_iload_n (pc := 21) (i := 2) (j := 1) dX11_goOrders_21 rfl rfl ?_
  refine z_aload_n (pc := 22) (i := 0) (j := 0) dX11_goOrders_22 rfl rfl ?_
  refine z_ogetI (pc := 23) dX11_goOrders_23 lf_RX11_212 sh_41 rfl rfl ?_
  refine z_icmp_ge (pc := 26) (tgt := 47) dX11_goOrders_26 (by decide) (fun hc => ?_) (fun hc => ?_)
  · rw [if_pos hc] at hf
    obtain ⟨y, hy, hxy⟩ := Option.map_eq_some_iff.mp hf
    subst hxy
    exact z_pick [0] rfl (b_X11_goOrders_B47 e hd Rf hR  m (K := fun y => K (Sum.inr y)) hy hK  h0)
  · rw [if_neg hc] at hf
    refine z_aload_n (pc := 29) (i := 0) (j := 0) dX11_goOrders_29 rfl rfl ?_
    refine z_ogetR (pc := 30) dX11_goOrders_30 lf_RX11_57 sh_41 rfl rfl rfl ?_
    refine z_iload_n (pc := 33) (i := 2) (j := 1) dX11_goOrders_33 rfl rfl ?_
    refine z_aload_n (pc := 34) (i := 0) (j := 0) dX11_goOrders_34 rfl rfl ?_
    refine z_ogetR (pc := 35) dX11_goOrders_35 lf_RX11_54 sh_41 rfl rfl rfl ?_
    refine z_iload_n (pc := 38) (i := 2) (j := 1) dX11_goOrders_38 rfl rfl ?_
    obtain ⟨w1, hw1, hf⟩ := Option.bind_eq_some_iff.mp hf
    refine z_oiald (pc := 39) dX11_goOrders_39 hw1 ?_
    obtain ⟨m2, hm2, hf⟩ := Option.bind_eq_some_iff.mp hf
    refine z_oiast (pc := 40) dX11_goOrders_40 hm2 ?_
    refine z_iinc (pc := 41) (j := 1) (ls' := [(2, .int (v2 + 1)), (0, .ref 41)]) dX11_goOrders_41 rfl ki_1 (Nat.le_of_ble_eq_true rfl) rfl ?_
    refine z_goto (pc := 44) (tgt := 21) dX11_goOrders_44 (by decide) ?_
    obtain rfl := Option.some.inj hf
    exact z_pick (ls' := [(0, .ref 41), (2, .int (v2 + 1))]) [1, 0] rfl (h1 ((v2 + 1), m2) hK)
def f_X11_goOrders_L21 (Rf : (Int32 → ej_M → Option (Unit × ej_M))) (v2 : Int32) (m : ej_M) : Option (Unit × ej_M) := oj_loop (fun q : (Int32 × ej_M) => f_X11_goOrders_L21b Rf q.1 q.2) oj_FU (v2, m)
set_option maxHeartbeats 4000000 in
set_option maxRecDepth 100000 in
theorem b_X11_goOrders_L21 (e : Nat) (hd : 4 ≤ e) (Rf : (Int32 → ej_M → Option (Unit × ej_M))) (hR : Q_X11_goOrders Rf e) (v2 : Int32) (m : ej_M) {x : (Unit × ej_M)} {res : Option Value × ej_H} {K : (Unit × ej_M) → Prop} (hf : f_X11_goOrders_L21 Rf v2 m = some x) (hK : K x) (h0 : ∀ q : (Unit × ej_M), K q → res = (none, (ej_sh, q.2))) : ej_Z cX11_goOrders 4 none RX11 "goOrders" (e + 1) 21 [(0, .ref 41), (2, .int v2)] [] (ej_sh, m) res :=
  oj_loop_Z (body := fun q : (Int32 × ej_M) => f_X11_goOrders_L21b Rf q.1 q.2) (P := fun q : (Int32 × ej_M) => ej_Z cX11_goOrders 4 none RX11 "goOrders" (e + 1) 21 [(0, .ref 41), (2, .int q.1)] [] (ej_sh, q.2) res) (K := K) (fun s x hb hl hr => b_X11_goOrders_L21b e hd Rf hR  s.1 s.2 (K := fun x => (∀ s' : (Int32 × ej_M), x = Sum.inl s' → ej_Z cX11_goOrders 4 none RX11 "goOrders" (e + 1) 21 [(0, .ref 41), (2, .int s'.1)] [] (ej_sh, s'.2) res) ∧ ∀ e, x = Sum.inr e → K e) hb ⟨hl, hr⟩ (fun q hq => hq.1 q rfl) (fun q hq => h0 q (hq.2 _ rfl))) oj_FU (v2, m) x hf hK
def f_X11_goOrders_e (Rf : (Int32 → ej_M → Option (Unit × ej_M))) (v1 : Int32) (m : ej_M) : Option (Unit × ej_M) :=
  if v1 = 0 then
    (f_X11_isLawful m).bind fun q2 =>
    if q2.1 = 0 then
      some ((), q2.2)
    else
      if (q2.2.1 41 31) = 0 then
        f_X11_goOrders_L21 Rf 0 q2.2
      else
        f_X11_goOrders_B47 Rf  q2.2
  else
    (f_X11_bitsOf v1 m).bind fun q1 =>
    f_X11_goOrders_L70 Rf v1 ((m.1 41 29) - q1.1) 0 q1.2
set_option maxHeartbeats 4000000 in
set_option maxRecDepth 100000 in
theorem b_X11_goOrders_e (e : Nat) (hd : 4 ≤ e) (Rf : (Int32 → ej_M → Option (Unit × ej_M))) (hR : Q_X11_goOrders Rf e) (v1 : Int32) (m : ej_M) {x : (Unit × ej_M)} {res : Option Value × ej_H} {K : (Unit × ej_M) → Prop} (hf : f_X11_goOrders_e Rf v1 m = some x) (hK : K x) (h0 : ∀ q : (Unit × ej_M), K q → res = (none, (ej_sh, q.2))) : ej_Z cX11_goOrders 4 none RX11 "goOrders" (e + 1) 0 [(0, .ref 41), (1, .int v1)] [] (ej_sh, m) res := by
  unfold f_X11_goOrders_e at hf
  refine z_iload_n (pc := 0) (i := 1) (j := 1) dX11_goOrders_0 rfl rfl ?_
  refine z_if_ne (pc := 1) (tgt := 58) dX11_goOrders_1 (by decide) (fun hc => ?_) (fun hc => ?_)
  · rw [if_neg hc] at hf
    refine z_aload_n (pc := 58) (i := 0) (j := 0) dX11_goOrders_58 rfl rfl ?_
    refine z_ogetI (pc := 59) dX11_goOrders_59 lf_RX11_212 sh_41 rfl rfl ?_
    refine z_iload_n (pc := 62) (i := 1) (j := 1) dX11_goOrders_62 rfl rfl ?_
    obtain ⟨q1, hq1, hf⟩ := Option.bind_eq_some_iff.mp hf
    refine z_oSi (pc := 63) (as := [.int v1]) (rest := [.int (m.1 41 29)]) dX11_goOrders_63 lm_RX11_266 mf_X11_bitsOf ms_X11_bitsOf rfl rfl (Nat.le_of_ble_eq_true rfl) (c_X11_bitsOf e (by omega) v1 m hq1) ?_
    refine z_isub (pc := 66) dX11_goOrders_66 ?_
    refine z_istore_n (pc := 67) (i := 2) (ls' := [(2, .int ((m.1 41 29) - q1.1)), (0, .ref 41), (1, .int v1)]) dX11_goOrders_67 rfl (Nat.le_of_ble_eq_true rfl) rfl ?_
    refine z_iconst (pc := 68) dX11_goOrders_68 ki_0 ?_
    refine z_istore_n (pc := 69) (i := 3) (ls' := [(3, .int 0), (2, .int ((m.1 41 29) - q1.1)), (0, .ref 41), (1, .int v1)]) dX11_goOrders_69 rfl (Nat.le_of_ble_eq_true rfl) rfl ?_
    exact z_pick [2, 3, 1, 0] rfl (b_X11_goOrders_L70 e hd Rf hR v1 ((m.1 41 29) - q1.1) 0 q1.2 (K := K) hf hK  h0)
  · rw [if_pos hc] at hf
    refine z_aload_n (pc := 4) (i := 0) (j := 0) dX11_goOrders_4 rfl rfl ?_
    obtain ⟨q2, hq2, hf⟩ := Option.bind_eq_some_iff.mp hf
    refine z_oVi (pc := 5) (as := []) (rest := []) dX11_goOrders_5 lm_RX11_230 mf_X11_isLawful mi_X11_isLawful mv_X11_isLawful rc_41 rfl rfl (Nat.le_of_ble_eq_true rfl) (c_X11_isLawful e (by omega) m hq2) ?_
    refine z_if_ne (pc := 8) (tgt := 12) dX11_goOrders_8 (by decide) (fun hc => ?_) (fun hc => ?_)
    · rw [if_neg hc] at hf
      refine z_aload_n (pc := 12) (i := 0) (j := 0) dX11_goOrders_12 rfl rfl ?_
      refine z_ogetI (pc := 13) dX11_goOrders_13 lf_RX11_263 sh_41 rfl rfl ?_
      refine z_if_ne (pc := 16) (tgt := 47) dX11_goOrders_16 (by decide) (fun hc => ?_) (fun hc => ?_)
      · rw [if_neg hc] at hf
        exact z_pick [0] rfl (b_X11_goOrders_B47 e hd Rf hR  q2.2 (K := K) hf hK  h0)
      · rw [if_pos hc] at hf
        refine z_iconst (pc := 19) dX11_goOrders_19 ki_0 ?_
        refine z_istore_n (pc := 20) (i := 2) (ls' := [(2, .int 0), (0, .ref 41), (1, .int v1)]) dX11_goOrders_20 rfl (Nat.le_of_ble_eq_true rfl) rfl ?_
        exact z_pick [1, 0] rfl (b_X11_goOrders_L21 e hd Rf hR 0 q2.2 (K := K) hf hK  h0)
    · rw [if_pos hc] at hf
      obtain rfl := Option.some.inj hf
      rw [h0 _ hK]
      exact z_ret dX11_goOrders_11 rfl
def g_X11_goOrders : Nat → (Int32 → ej_M → Option (Unit × ej_M))
  | 0 => (fun _ _ => none)
  | n + 1 => (f_X11_goOrders_e (g_X11_goOrders n))
set_option maxHeartbeats 4000000 in
set_option maxRecDepth 100000 in
theorem c9_X11_goOrders : ∀ (n d : Nat), 5 + n ≤ d → Q_X11_goOrders (g_X11_goOrders n) d := by
  intro n
  induction n with
  | zero =>
    intro d _
    exact (fun _ _ _ h => by cases h)
  | succ n ih =>
    intro d hd
    obtain ⟨e, rfl⟩ : ∃ e, d = e + 1 := ⟨d - 1, by omega⟩
    refine ?_
    · intro v1 m q hf
      exact z_met (by decide +kernel) (Nat.le_of_ble_eq_true rfl) (b_X11_goOrders_e e (by omega) (g_X11_goOrders n) (ih e (by omega)) v1 m (K := fun z => ((none, (ej_sh, q.2)) : Option Value × ej_H) = (none, (ej_sh, z.2))) hf rfl (fun _ h => h))
def f_X11_goOrders (n : Nat) (v1 : Int32) (m : ej_M) : Option (Unit × ej_M) := (g_X11_goOrders n) v1 m
set_option maxHeartbeats 4000000 in
set_option maxRecDepth 100000 in
theorem c_X11_goOrders (d : Nat) (hd : 125 ≤ d) (v1 : Int32) (m : ej_M) {q : (Unit × ej_M)} (hf : f_X11_goOrders oj_RF v1 m = some q) : ej_Ct yX11_goOrders cX11_goOrders 4 none d [.ref 41, .int v1] (ej_sh, m) (none, (ej_sh, q.2)) := (c9_X11_goOrders oj_RF d hd) v1 m q hf
def f_X11_orders (v1 : Int32) (v2 : Int32) (m : ej_M) : Option (Int32 × ej_M) :=
  (oj_pf m 41 32 v2).bind fun m1 =>
  (f_X11_bitsOf v1 m1).bind fun q2 =>
  (oj_pf q2.2 41 29 q2.1).bind fun m3 =>
  (oj_pf m3 41 31 0).bind fun m4 =>
  (f_X11_goOrders oj_RF v1 m4).bind fun q5 =>
  some ((q5.2.1 41 31), q5.2)
set_option maxHeartbeats 4000000 in
set_option maxRecDepth 100000 in
theorem b_X11_orders (e : Nat) (hd : 125 ≤ e) (v1 : Int32) (v2 : Int32) (m : ej_M) {x : (Int32 × ej_M)} {res : Option Value × ej_H} {K : (Int32 × ej_M) → Prop} (hf : f_X11_orders v1 v2 m = some x) (hK : K x) (h0 : ∀ q : (Int32 × ej_M), K q → res = (some (Value.int q.1), (ej_sh, q.2))) : ej_Z cX11_orders 3 (some .int) RX11 "orders" (e + 1) 0 [(0, .ref 41), (1, .int v1), (2, .int v2)] [] (ej_sh, m) res := by
  unfold f_X11_orders at hf
  refine z_aload_n (pc := 0) (i := 0) (j := 0) dX11_orders_0 rfl rfl ?_
  refine z_iload_n (pc := 1) (i := 2) (j := 2) dX11_orders_1 rfl rfl ?_
  obtain ⟨m1, hm1, hf⟩ := Option.bind_eq_some_iff.mp hf
  refine z_oputI (pc := 2) dX11_orders_2 lf_RX11_258 sh_41 rfl hm1 ?_
  refine z_aload_n (pc := 5) (i := 0) (j := 0) dX11_orders_5 rfl rfl ?_
  refine z_iload_n (pc := 6) (i := 1) (j := 1) dX11_orders_6 rfl rfl ?_
  obtain ⟨q2, hq2, hf⟩ := Option.bind_eq_some_iff.mp hf
  refine z_oSi (pc := 7) (as := [.int v1]) (rest := [.ref 41]) dX11_orders_7 lm_RX11_266 mf_X11_bitsOf ms_X11_bitsOf rfl rfl (Nat.le_of_ble_eq_true rfl) (c_X11_bitsOf e (by omega) v1 m1 hq2) ?_
  obtain ⟨m3, hm3, hf⟩ := Option.bind_eq_some_iff.mp hf
  refine z_oputI (pc := 10) dX11_orders_10 lf_RX11_212 sh_41 rfl hm3 ?_
  refine z_aload_n (pc := 13) (i := 0) (j := 0) dX11_orders_13 rfl rfl ?_
  refine z_iconst (pc := 14) dX11_orders_14 ki_0 ?_
  obtain ⟨m4, hm4, hf⟩ := Option.bind_eq_some_iff.mp hf
  refine z_oputI (pc := 15) dX11_orders_15 lf_RX11_263 sh_41 rfl hm4 ?_
  refine z_aload_n (pc := 18) (i := 0) (j := 0) dX11_orders_18 rfl rfl ?_
  refine z_iload_n (pc := 19) (i := 1) (j := 1) dX11_orders_19 rfl rfl ?_
  obtain ⟨q5, hq5, hf⟩ := Option.bind_eq_some_iff.mp hf
  refine z_oVv (pc := 20) (as := [.int v1]) (rest := []) dX11_orders_20 lm_RX11_273 mf_X11_goOrders mi_X11_goOrders mv_X11_goOrders rc_41 rfl rfl (Nat.le_of_ble_eq_true rfl) (c_X11_goOrders e (by omega) v1 m4 hq5) ?_
  refine z_aload_n (pc := 23) (i := 0) (j := 0) dX11_orders_23 rfl rfl ?_
  refine z_ogetI (pc := 24) dX11_orders_24 lf_RX11_263 sh_41 rfl rfl ?_
  obtain rfl := Option.some.inj hf
  rw [h0 _ hK]
  exact z_iret dX11_orders_27 rfl rfl
set_option maxHeartbeats 4000000 in
set_option maxRecDepth 100000 in
theorem c_X11_orders (d : Nat) (hd : 126 ≤ d) (v1 : Int32) (v2 : Int32) (m : ej_M) {q : (Int32 × ej_M)} (hf : f_X11_orders v1 v2 m = some q) : ej_Ct yX11_orders cX11_orders 3 (some .int) d [.ref 41, .int v1, .int v2] (ej_sh, m) ((some (Value.int q.1), (ej_sh, q.2)) : Option Value × ej_H) := by
  obtain ⟨e, rfl⟩ : ∃ e, d = e + 1 := ⟨d - 1, by omega⟩
  exact z_met (by decide +kernel) (Nat.le_of_ble_eq_true rfl) (b_X11_orders e (by omega) v1 v2 m (K := fun z => ((some (Value.int q.1), (ej_sh, q.2)) : Option Value × ej_H) = (some (Value.int z.1), (ej_sh, z.2))) hf rfl (fun _ h => h))
def f_X11_rows (v1 : Int32) (v2 : Int32) (m : ej_M) : Option (Int32 × ej_M) :=
  (f_X11_isSet v1 m).bind fun q1 =>
  if q1.1 = 0 then
    some ((-1), q1.2)
  else
    (f_X11_bitsOf v1 q1.2).bind fun q2 =>
    (f_X11_in v2 (-1) (q2.1 - 1) q2.2).bind fun q3 =>
    if q3.1 = 0 then
      some ((-1), q3.2)
    else
      (f_X11_orders v1 (-1) q3.2).bind fun q4 =>
      if 0 ≤ v2 then
        if q4.1 = 0 then
          some ((-2), q4.2)
        else
          (oj_ld 0 q4.2 57 v2).bind fun w5 =>
          some (w5, q4.2)
      else
        some (q4.1, q4.2)
set_option maxHeartbeats 4000000 in
set_option maxRecDepth 100000 in
theorem b_X11_rows (e : Nat) (hd : 126 ≤ e) (v1 : Int32) (v2 : Int32) (m : ej_M) {x : (Int32 × ej_M)} {res : Option Value × ej_H} {K : (Int32 × ej_M) → Prop} (hf : f_X11_rows v1 v2 m = some x) (hK : K x) (h0 : ∀ q : (Int32 × ej_M), K q → res = (some (Value.int q.1), (ej_sh, q.2))) : ej_Z cX11_rows 4 (some .int) RX11 "rows" (e + 1) 0 [(0, .ref 41), (1, .int v1), (2, .int v2)] [] (ej_sh, m) res := by
  unfold f_X11_rows at hf
  refine z_aload_n (pc := 0) (i := 0) (j := 0) dX11_rows_0 rfl rfl ?_
  refine z_iload_n (pc := 1) (i := 1) (j := 1) dX11_rows_1 rfl rfl ?_
  obtain ⟨q1, hq1, hf⟩ := Option.bind_eq_some_iff.mp hf
  refine z_oVi (pc := 2) (as := [.int v1]) (rest := []) dX11_rows_2 lm_RX11_276 mf_X11_isSet mi_X11_isSet mv_X11_isSet rc_41 rfl rfl (Nat.le_of_ble_eq_true rfl) (c_X11_isSet e (by omega) v1 m hq1) ?_
  refine z_if_eq (pc := 5) (tgt := 22) dX11_rows_5 (by decide) (fun hc => ?_) (fun hc => ?_)
  · rw [if_pos hc] at hf
    refine z_iconst (pc := 22) dX11_rows_22 ki_n1 ?_
    obtain rfl := Option.some.inj hf
    rw [h0 _ hK]
    exact z_iret dX11_rows_23 rfl rfl
  · rw [if_neg hc] at hf
    refine z_iload_n (pc := 8) (i := 2) (j := 2) dX11_rows_8 rfl rfl ?_
    refine z_iconst (pc := 9) dX11_rows_9 ki_n1 ?_
    refine z_iload_n (pc := 10) (i := 1) (j := 1) dX11_rows_10 rfl rfl ?_
    obtain ⟨q2, hq2, hf⟩ := Option.bind_eq_some_iff.mp hf
    refine z_oSi (pc := 11) (as := [.int v1]) (rest := [.int (-1), .int v2]) dX11_rows_11 lm_RX11_266 mf_X11_bitsOf ms_X11_bitsOf rfl rfl (Nat.le_of_ble_eq_true rfl) (c_X11_bitsOf e (by omega) v1 q1.2 hq2) ?_
    refine z_iconst (pc := 14) dX11_rows_14 ki_1 ?_
    refine z_isub (pc := 15) dX11_rows_15 ?_
    obtain ⟨q3, hq3, hf⟩ := Option.bind_eq_some_iff.mp hf
    refine z_oSi (pc := 16) (as := [.int v2, .int (-1), .int (q2.1 - 1)]) (rest := []) dX11_rows_16 lm_RX11_104 mf_X11_in ms_X11_in rfl rfl (Nat.le_of_ble_eq_true rfl) (c_X11_in e (by omega) v2 (-1) (q2.1 - 1) q2.2 hq3) ?_
    refine z_if_ne (pc := 19) (tgt := 24) dX11_rows_19 (by decide) (fun hc => ?_) (fun hc => ?_)
    · rw [if_neg hc] at hf
      refine z_aload_n (pc := 24) (i := 0) (j := 0) dX11_rows_24 rfl rfl ?_
      refine z_iload_n (pc := 25) (i := 1) (j := 1) dX11_rows_25 rfl rfl ?_
      refine z_iconst (pc := 26) dX11_rows_26 ki_n1 ?_
      obtain ⟨q4, hq4, hf⟩ := Option.bind_eq_some_iff.mp hf
      refine z_oVi (pc := 27) (as := [.int v1, .int (-1)]) (rest := []) dX11_rows_27 lm_RX11_279 mf_X11_orders mi_X11_orders mv_X11_orders rc_41 rfl rfl (Nat.le_of_ble_eq_true rfl) (c_X11_orders e (by omega) v1 (-1) q3.2 hq4) ?_
      refine z_istore_n (pc := 30) (i := 3) (ls' := [(3, .int q4.1), (0, .ref 41), (1, .int v1), (2, .int v2)]) dX11_rows_30 rfl (Nat.le_of_ble_eq_true rfl) rfl ?_
      refine z_iload_n (pc := 31) (i := 2) (j := 3) dX11_rows_31 rfl rfl ?_
      refine z_if_ge (pc := 32) (tgt := 39) dX11_rows_32 (by decide) (fun hc => ?_) (fun hc => ?_)
      · rw [if_pos hc] at hf
        refine z_iload_n (pc := 39) (i := 3) (j := 0) dX11_rows_39 rfl rfl ?_
        refine z_if_ne (pc := 40) (tgt := 48) dX11_rows_40 (by decide) (fun hc => ?_) (fun hc => ?_)
        · rw [if_neg hc] at hf
          refine z_aload_n (pc := 48) (i := 0) (j := 1) dX11_rows_48 rfl rfl ?_
          refine z_ogetR (pc := 49) dX11_rows_49 lf_RX11_57 sh_41 rfl rfl rfl ?_
          refine z_iload_n (pc := 52) (i := 2) (j := 3) dX11_rows_52 rfl rfl ?_
          obtain ⟨w5, hw5, hf⟩ := Option.bind_eq_some_iff.mp hf
          refine z_oiald (pc := 53) dX11_rows_53 hw5 ?_
          obtain rfl := Option.some.inj hf
          rw [h0 _ hK]
          exact z_iret dX11_rows_54 rfl rfl
        · rw [if_pos hc] at hf
          refine z_bipush (pc := 43) dX11_rows_43 kb_n2 ?_
          refine z_goto (pc := 45) (tgt := 54) dX11_rows_45 (by decide) ?_
          obtain rfl := Option.some.inj hf
          rw [h0 _ hK]
          exact z_iret dX11_rows_54 rfl rfl
      · rw [if_neg hc] at hf
        refine z_iload_n (pc := 35) (i := 3) (j := 0) dX11_rows_35 rfl rfl ?_
        refine z_goto (pc := 36) (tgt := 54) dX11_rows_36 (by decide) ?_
        obtain rfl := Option.some.inj hf
        rw [h0 _ hK]
        exact z_iret dX11_rows_54 rfl rfl
    · rw [if_pos hc] at hf
      refine z_iconst (pc := 22) dX11_rows_22 ki_n1 ?_
      obtain rfl := Option.some.inj hf
      rw [h0 _ hK]
      exact z_iret dX11_rows_23 rfl rfl
set_option maxHeartbeats 4000000 in
set_option maxRecDepth 100000 in
theorem c_X11_rows (d : Nat) (hd : 127 ≤ d) (v1 : Int32) (v2 : Int32) (m : ej_M) {q : (Int32 × ej_M)} (hf : f_X11_rows v1 v2 m = some q) : ej_Ct yX11_rows cX11_rows 4 (some .int) d [.ref 41, .int v1, .int v2] (ej_sh, m) ((some (Value.int q.1), (ej_sh, q.2)) : Option Value × ej_H) := by
  obtain ⟨e, rfl⟩ : ∃ e, d = e + 1 := ⟨d - 1, by omega⟩
  exact z_met (by decide +kernel) (Nat.le_of_ble_eq_true rfl) (b_X11_rows e (by omega) v1 v2 m (K := fun z => ((some (Value.int q.1), (ej_sh, q.2)) : Option Value × ej_H) = (some (Value.int z.1), (ej_sh, z.2))) hf rfl (fun _ h => h))
def f_X8_lighterBeside (v1 : Int32) (v2 : Int32) (v3 : Int32) (m : ej_M) : Option (Int32 × ej_M) :=
  (f_X4_placeBeside v1 v2 v3 m).bind fun q1 =>
  if q1.1 = (-1) then
    some (0, q1.2)
  else
    (f_X10_at 17 q1.1 q1.2).bind fun q2 =>
    some (q2.1, q2.2)
set_option maxHeartbeats 4000000 in
set_option maxRecDepth 100000 in
theorem b_X8_lighterBeside (e : Nat) (hd : 0 ≤ e) (v1 : Int32) (v2 : Int32) (v3 : Int32) (m : ej_M) {x : (Int32 × ej_M)} {res : Option Value × ej_H} {K : (Int32 × ej_M) → Prop} (hf : f_X8_lighterBeside v1 v2 v3 m = some x) (hK : K x) (h0 : ∀ q : (Int32 × ej_M), K q → res = (some (Value.int q.1), (ej_sh, q.2))) : ej_Z cX8_lighterBeside 5 (some .int) RX8 "lighterBeside" (e + 1) 0 [(0, .ref 15), (1, .int v1), (2, .int v2), (3, .int v3)] [] (ej_sh, m) res := by
  unfold f_X8_lighterBeside at hf
  refine z_aload_n (pc := 0) (i := 0) (j := 0) dX8_lighterBeside_0 rfl rfl ?_
  refine z_ogetR (pc := 1) dX8_lighterBeside_1 lf_RX8_18 sh_15 rfl rfl rfl ?_
  refine z_iload_n (pc := 4) (i := 1) (j := 1) dX8_lighterBeside_4 rfl rfl ?_
  refine z_iload_n (pc := 5) (i := 2) (j := 2) dX8_lighterBeside_5 rfl rfl ?_
  refine z_iload_n (pc := 6) (i := 3) (j := 3) dX8_lighterBeside_6 rfl rfl ?_
  obtain ⟨q1, hq1, hf⟩ := Option.bind_eq_some_iff.mp hf
  refine z_oVi (pc := 7) (as := [.int v1, .int v2, .int v3]) (rest := []) dX8_lighterBeside_7 lm_RX8_73 mf_X4_placeBeside mi_X4_placeBeside mv_X4_placeBeside rc_6 rfl rfl (Nat.le_of_ble_eq_true rfl) (c_X4_placeBeside e (by omega) v1 v2 v3 m hq1) ?_
  refine z_istore (pc := 10) (i := 4) (ls' := [(4, .int q1.1), (0, .ref 15), (1, .int v1), (2, .int v2), (3, .int v3)]) dX8_lighterBeside_10 (Nat.le_of_ble_eq_true rfl) rfl ?_
  refine z_iload (pc := 12) (i := 4) (j := 0) dX8_lighterBeside_12 rfl ?_
  refine z_iconst (pc := 14) dX8_lighterBeside_14 ki_n1 ?_
  refine z_icmp_ne (pc := 15) (tgt := 22) dX8_lighterBeside_15 (by decide) (fun hc => ?_) (fun hc => ?_)
  · rw [if_neg hc] at hf
    refine z_aload_n (pc := 22) (i := 0) (j := 1) dX8_lighterBeside_22 rfl rfl ?_
    refine z_ogetR (pc := 23) dX8_lighterBeside_23 lf_RX8_15 sh_15 rfl rfl rfl ?_
    refine z_iload (pc := 26) (i := 4) (j := 0) dX8_lighterBeside_26 rfl ?_
    obtain ⟨q2, hq2, hf⟩ := Option.bind_eq_some_iff.mp hf
    refine z_oSi (pc := 28) (as := [.ref 17, .int q1.1]) (rest := []) dX8_lighterBeside_28 lm_RX8_46 mf_X10_at ms_X10_at rfl rfl (Nat.le_of_ble_eq_true rfl) (c_X10_at e (by omega) 17 q1.1 q1.2 hq2) ?_
    obtain rfl := Option.some.inj hf
    rw [h0 _ hK]
    exact z_iret dX8_lighterBeside_31 rfl rfl
  · rw [if_pos hc] at hf
    refine z_iconst (pc := 18) dX8_lighterBeside_18 ki_0 ?_
    refine z_goto (pc := 19) (tgt := 31) dX8_lighterBeside_19 (by decide) ?_
    obtain rfl := Option.some.inj hf
    rw [h0 _ hK]
    exact z_iret dX8_lighterBeside_31 rfl rfl
set_option maxHeartbeats 4000000 in
set_option maxRecDepth 100000 in
theorem c_X8_lighterBeside (d : Nat) (hd : 1 ≤ d) (v1 : Int32) (v2 : Int32) (v3 : Int32) (m : ej_M) {q : (Int32 × ej_M)} (hf : f_X8_lighterBeside v1 v2 v3 m = some q) : ej_Ct yX8_lighterBeside cX8_lighterBeside 5 (some .int) d [.ref 15, .int v1, .int v2, .int v3] (ej_sh, m) ((some (Value.int q.1), (ej_sh, q.2)) : Option Value × ej_H) := by
  obtain ⟨e, rfl⟩ : ∃ e, d = e + 1 := ⟨d - 1, by omega⟩
  exact z_met (by decide +kernel) (Nat.le_of_ble_eq_true rfl) (b_X8_lighterBeside e (by omega) v1 v2 v3 m (K := fun z => ((some (Value.int q.1), (ej_sh, q.2)) : Option Value × ej_H) = (some (Value.int z.1), (ej_sh, z.2))) hf rfl (fun _ h => h))
def f_X8_knockOff_L98b (v1 : Int32) (v2 : Int32) (m : ej_M) : Option ((Int32 × ej_M) ⊕ (Int32 × ej_M)) :=
  if v1 ≤ v2 then
    some (Sum.inr (1, m))
  else
    (f_X10_at 17 v2 m).bind fun q1 =>
    if 1 ≤ q1.1 then
      some (Sum.inl ((v2 + 1), q1.2))
    else
      some (Sum.inr (0, q1.2))
set_option maxHeartbeats 4000000 in
set_option maxRecDepth 100000 in
theorem b_X8_knockOff_L98b (e : Nat) (hd : 1 ≤ e) (v1 : Int32) (v2 : Int32) (m : ej_M) {x : ((Int32 × ej_M) ⊕ (Int32 × ej_M))} {res : Option Value × ej_H} {K : ((Int32 × ej_M) ⊕ (Int32 × ej_M)) → Prop} (hf : f_X8_knockOff_L98b v1 v2 m = some x) (hK : K x) (h1 : ∀ q : (Int32 × ej_M), K (Sum.inl q) → ej_Z cX8_knockOff 4 (some .boolean) RX8 "knockOff" (e + 1) 98 [(0, .ref 15), (1, .int v1), (2, .int q.1)] [] (ej_sh, q.2) res) (h0 : ∀ q : (Int32 × ej_M), K (Sum.inr q) → res = (some (Value.int q.1), (ej_sh, q.2))) : ej_Z cX8_knockOff 4 (some .boolean) RX8 "knockOff" (e + 1) 98 [(0, .ref 15), (1, .int v1), (2, .int v2)] [] (ej_sh, m) res := by
  unfold f_X8_knockOff_L98b at hf
  refine z_iload_n (pc := 98) (i := 2) (j := 2) dX8_knockOff_98 rfl rfl ?_
  refine z_iload_n (pc := 99) (i := 1) (j := 1) dX8_knockOff_99 rfl rfl ?_
  refine z_icmp_ge (pc := 100) (tgt := 123) dX8_knockOff_100 (by decide) (fun hc => ?_) (fun hc => ?_)
  · rw [if_pos hc] at hf
    refine z_iconst (pc := 123) dX8_knockOff_123 ki_1 ?_
    obtain rfl := Option.some.inj hf
    rw [h0 _ hK]
    exact z_iret dX8_knockOff_124 rfl rfl
  · rw [if_neg hc] at hf
    refine z_aload_n (pc := 103) (i := 0) (j := 0) dX8_knockOff_103 rfl rfl ?_
    refine z_ogetR (pc := 104) dX8_knockOff_104 lf_RX8_15 sh_15 rfl rfl rfl ?_
    refine z_iload_n (pc := 107) (i := 2) (j := 2) dX8_knockOff_107 rfl rfl ?_
    obtain ⟨q1, hq1, hf⟩ := Option.bind_eq_some_iff.mp hf
    refine z_oSi (pc := 108) (as := [.ref 17, .int v2]) (rest := []) dX8_knockOff_108 lm_RX8_46 mf_X10_at ms_X10_at rfl rfl (Nat.le_of_ble_eq_true rfl) (c_X10_at e (by omega) 17 v2 m hq1) ?_
    refine z_iconst (pc := 111) dX8_knockOff_111 ki_1 ?_
    refine z_icmp_ge (pc := 112) (tgt := 117) dX8_knockOff_112 (by decide) (fun hc => ?_) (fun hc => ?_)
    · rw [if_pos hc] at hf
      refine z_iinc (pc := 117) (j := 2) (ls' := [(2, .int (v2 + 1)), (0, .ref 15), (1, .int v1)]) dX8_knockOff_117 rfl ki_1 (Nat.le_of_ble_eq_true rfl) rfl ?_
      refine z_goto (pc := 120) (tgt := 98) dX8_knockOff_120 (by decide) ?_
      obtain rfl := Option.some.inj hf
      exact z_pick (ls' := [(0, .ref 15), (1, .int v1), (2, .int (v2 + 1))]) [1, 2, 0] rfl (h1 ((v2 + 1), q1.2) hK)
    · rw [if_neg hc] at hf
      refine z_iconst (pc := 115) dX8_knockOff_115 ki_0 ?_
      obtain rfl := Option.some.inj hf
      rw [h0 _ hK]
      exact z_iret dX8_knockOff_116 rfl rfl
def f_X8_knockOff_L98 (v1 : Int32) (v2 : Int32) (m : ej_M) : Option (Int32 × ej_M) := oj_loop (fun q : (Int32 × ej_M) => f_X8_knockOff_L98b v1 q.1 q.2) oj_FU (v2, m)
set_option maxHeartbeats 4000000 in
set_option maxRecDepth 100000 in
theorem b_X8_knockOff_L98 (e : Nat) (hd : 1 ≤ e) (v1 : Int32) (v2 : Int32) (m : ej_M) {x : (Int32 × ej_M)} {res : Option Value × ej_H} {K : (Int32 × ej_M) → Prop} (hf : f_X8_knockOff_L98 v1 v2 m = some x) (hK : K x) (h0 : ∀ q : (Int32 × ej_M), K q → res = (some (Value.int q.1), (ej_sh, q.2))) : ej_Z cX8_knockOff 4 (some .boolean) RX8 "knockOff" (e + 1) 98 [(0, .ref 15), (1, .int v1), (2, .int v2)] [] (ej_sh, m) res :=
  oj_loop_Z (body := fun q : (Int32 × ej_M) => f_X8_knockOff_L98b v1 q.1 q.2) (P := fun q : (Int32 × ej_M) => ej_Z cX8_knockOff 4 (some .boolean) RX8 "knockOff" (e + 1) 98 [(0, .ref 15), (1, .int v1), (2, .int q.1)] [] (ej_sh, q.2) res) (K := K) (fun s x hb hl hr => b_X8_knockOff_L98b e hd v1  s.1 s.2 (K := fun x => (∀ s' : (Int32 × ej_M), x = Sum.inl s' → ej_Z cX8_knockOff 4 (some .boolean) RX8 "knockOff" (e + 1) 98 [(0, .ref 15), (1, .int v1), (2, .int s'.1)] [] (ej_sh, s'.2) res) ∧ ∀ e, x = Sum.inr e → K e) hb ⟨hl, hr⟩ (fun q hq => hq.1 q rfl) (fun q hq => h0 q (hq.2 _ rfl))) oj_FU (v2, m) x hf hK
def f_X8_knockOff_L49b (v1 : Int32) (v2 : Int32) (m : ej_M) : Option ((Int32 × ej_M) ⊕ (Int32 × ej_M)) :=
  if v1 ≤ v2 then
    (f_X8_knockOff_L98 v1 0 m).map fun y => (Sum.inr y)
  else
    (f_X8_lighterBeside v2 v1 (-1) m).bind fun q1 =>
    (f_X8_lighterBeside v2 v1 1 q1.2).bind fun q2 =>
    (f_X10_at 17 v2 q2.2).bind fun q3 =>
    (f_X10_lay 17 v2 (if (q1.1 + q2.1) < q3.1 then (q1.1 + q2.1) else q3.1) q3.2).bind fun q4 =>
    some (Sum.inl ((v2 + 1), q4.2))
set_option maxHeartbeats 4000000 in
set_option maxRecDepth 100000 in
theorem b_X8_knockOff_L49b (e : Nat) (hd : 1 ≤ e) (v1 : Int32) (v2 : Int32) (m : ej_M) {x : ((Int32 × ej_M) ⊕ (Int32 × ej_M))} {res : Option Value × ej_H} {K : ((Int32 × ej_M) ⊕ (Int32 × ej_M)) → Prop} (hf : f_X8_knockOff_L49b v1 v2 m = some x) (hK : K x) (h1 : ∀ q : (Int32 × ej_M), K (Sum.inl q) → ej_Z cX8_knockOff 4 (some .boolean) RX8 "knockOff" (e + 1) 49 [(0, .ref 15), (1, .int v1), (2, .int q.1)] [] (ej_sh, q.2) res) (h0 : ∀ q : (Int32 × ej_M), K (Sum.inr q) → res = (some (Value.int q.1), (ej_sh, q.2))) : ej_Z cX8_knockOff 4 (some .boolean) RX8 "knockOff" (e + 1) 49 [(0, .ref 15), (1, .int v1), (2, .int v2)] [] (ej_sh, m) res := by
  unfold f_X8_knockOff_L49b at hf
  refine z_iload_n (pc := 49) (i := 2) (j := 2) dX8_knockOff_49 rfl rfl ?_
  refine z_iload_n (pc := 50) (i := 1) (j := 1) dX8_knockOff_50 rfl rfl ?_
  refine z_icmp_ge (pc := 51) (tgt := 96) dX8_knockOff_51 (by decide) (fun hc => ?_) (fun hc => ?_)
  · rw [if_pos hc] at hf
    refine z_iconst (pc := 96) dX8_knockOff_96 ki_0 ?_
    refine z_istore_n (pc := 97) (i := 2) (ls' := [(2, .int 0), (0, .ref 15), (1, .int v1)]) dX8_knockOff_97 rfl (Nat.le_of_ble_eq_true rfl) rfl ?_
    obtain ⟨y, hy, hxy⟩ := Option.map_eq_some_iff.mp hf
    subst hxy
    exact z_pick [1, 2, 0] rfl (b_X8_knockOff_L98 e hd v1 0 m (K := fun y => K (Sum.inr y)) hy hK  h0)
  · rw [if_neg hc] at hf
    refine z_aload_n (pc := 54) (i := 0) (j := 0) dX8_knockOff_54 rfl rfl ?_
    refine z_iload_n (pc := 55) (i := 2) (j := 2) dX8_knockOff_55 rfl rfl ?_
    refine z_iload_n (pc := 56) (i := 1) (j := 1) dX8_knockOff_56 rfl rfl ?_
    refine z_iconst (pc := 57) dX8_knockOff_57 ki_n1 ?_
    obtain ⟨q1, hq1, hf⟩ := Option.bind_eq_some_iff.mp hf
    refine z_oVi (pc := 58) (as := [.int v2, .int v1, .int (-1)]) (rest := []) dX8_knockOff_58 lm_RX8_63 mf_X8_lighterBeside mi_X8_lighterBeside mv_X8_lighterBeside rc_15 rfl rfl (Nat.le_of_ble_eq_true rfl) (c_X8_lighterBeside e (by omega) v2 v1 (-1) m hq1) ?_
    refine z_aload_n (pc := 61) (i := 0) (j := 0) dX8_knockOff_61 rfl rfl ?_
    refine z_iload_n (pc := 62) (i := 2) (j := 2) dX8_knockOff_62 rfl rfl ?_
    refine z_iload_n (pc := 63) (i := 1) (j := 1) dX8_knockOff_63 rfl rfl ?_
    refine z_iconst (pc := 64) dX8_knockOff_64 ki_1 ?_
    obtain ⟨q2, hq2, hf⟩ := Option.bind_eq_some_iff.mp hf
    refine z_oVi (pc := 65) (as := [.int v2, .int v1, .int 1]) (rest := [.int q1.1]) dX8_knockOff_65 lm_RX8_63 mf_X8_lighterBeside mi_X8_lighterBeside mv_X8_lighterBeside rc_15 rfl rfl (Nat.le_of_ble_eq_true rfl) (c_X8_lighterBeside e (by omega) v2 v1 1 q1.2 hq2) ?_
    refine z_iadd (pc := 68) dX8_knockOff_68 ?_
    refine z_istore_n (pc := 69) (i := 3) (ls' := [(3, .int (q1.1 + q2.1)), (0, .ref 15), (1, .int v1), (2, .int v2)]) dX8_knockOff_69 rfl (Nat.le_of_ble_eq_true rfl) rfl ?_
    refine z_aload_n (pc := 70) (i := 0) (j := 1) dX8_knockOff_70 rfl rfl ?_
    refine z_ogetR (pc := 71) dX8_knockOff_71 lf_RX8_15 sh_15 rfl rfl rfl ?_
    refine z_iload_n (pc := 74) (i := 2) (j := 3) dX8_knockOff_74 rfl rfl ?_
    refine z_aload_n (pc := 75) (i := 0) (j := 1) dX8_knockOff_75 rfl rfl ?_
    refine z_ogetR (pc := 76) dX8_knockOff_76 lf_RX8_15 sh_15 rfl rfl rfl ?_
    refine z_iload_n (pc := 79) (i := 2) (j := 3) dX8_knockOff_79 rfl rfl ?_
    obtain ⟨q3, hq3, hf⟩ := Option.bind_eq_some_iff.mp hf
    refine z_oSi (pc := 80) (as := [.ref 17, .int v2]) (rest := [.int v2, .ref 17]) dX8_knockOff_80 lm_RX8_46 mf_X10_at ms_X10_at rfl rfl (Nat.le_of_ble_eq_true rfl) (c_X10_at e (by omega) 17 v2 q2.2 hq3) ?_
    refine z_iload_n (pc := 83) (i := 3) (j := 0) dX8_knockOff_83 rfl rfl ?_
    refine z_mmin (pc := 84) dX8_knockOff_84 lx_RX8_67 mx_min.1 mx_min.2.1 mx_min.2.2 (Nat.le_of_ble_eq_true rfl) ?_
    obtain ⟨q4, hq4, hf⟩ := Option.bind_eq_some_iff.mp hf
    refine z_oSv (pc := 87) (as := [.ref 17, .int v2, .int (if (q1.1 + q2.1) < q3.1 then (q1.1 + q2.1) else q3.1)]) (rest := []) dX8_knockOff_87 lm_RX8_60 mf_X10_lay ms_X10_lay rfl rfl (Nat.le_of_ble_eq_true rfl) (c_X10_lay e (by omega) 17 v2 (if (q1.1 + q2.1) < q3.1 then (q1.1 + q2.1) else q3.1) q3.2 hq4) ?_
    refine z_iinc (pc := 90) (j := 3) (ls' := [(2, .int (v2 + 1)), (3, .int (q1.1 + q2.1)), (0, .ref 15), (1, .int v1)]) dX8_knockOff_90 rfl ki_1 (Nat.le_of_ble_eq_true rfl) rfl ?_
    refine z_goto (pc := 93) (tgt := 49) dX8_knockOff_93 (by decide) ?_
    obtain rfl := Option.some.inj hf
    exact z_pick (ls' := [(0, .ref 15), (1, .int v1), (2, .int (v2 + 1))]) [2, 3, 0] rfl (h1 ((v2 + 1), q4.2) hK)
def f_X8_knockOff_L49 (v1 : Int32) (v2 : Int32) (m : ej_M) : Option (Int32 × ej_M) := oj_loop (fun q : (Int32 × ej_M) => f_X8_knockOff_L49b v1 q.1 q.2) oj_FU (v2, m)
set_option maxHeartbeats 4000000 in
set_option maxRecDepth 100000 in
theorem b_X8_knockOff_L49 (e : Nat) (hd : 1 ≤ e) (v1 : Int32) (v2 : Int32) (m : ej_M) {x : (Int32 × ej_M)} {res : Option Value × ej_H} {K : (Int32 × ej_M) → Prop} (hf : f_X8_knockOff_L49 v1 v2 m = some x) (hK : K x) (h0 : ∀ q : (Int32 × ej_M), K q → res = (some (Value.int q.1), (ej_sh, q.2))) : ej_Z cX8_knockOff 4 (some .boolean) RX8 "knockOff" (e + 1) 49 [(0, .ref 15), (1, .int v1), (2, .int v2)] [] (ej_sh, m) res :=
  oj_loop_Z (body := fun q : (Int32 × ej_M) => f_X8_knockOff_L49b v1 q.1 q.2) (P := fun q : (Int32 × ej_M) => ej_Z cX8_knockOff 4 (some .boolean) RX8 "knockOff" (e + 1) 49 [(0, .ref 15), (1, .int v1), (2, .int q.1)] [] (ej_sh, q.2) res) (K := K) (fun s x hb hl hr => b_X8_knockOff_L49b e hd v1  s.1 s.2 (K := fun x => (∀ s' : (Int32 × ej_M), x = Sum.inl s' → ej_Z cX8_knockOff 4 (some .boolean) RX8 "knockOff" (e + 1) 49 [(0, .ref 15), (1, .int v1), (2, .int s'.1)] [] (ej_sh, s'.2) res) ∧ ∀ e, x = Sum.inr e → K e) hb ⟨hl, hr⟩ (fun q hq => hq.1 q rfl) (fun q hq => h0 q (hq.2 _ rfl))) oj_FU (v2, m) x hf hK
def f_X8_knockOff_L10b (v1 : Int32) (v2 : Int32) (m : ej_M) : Option ((Int32 × ej_M) ⊕ (Int32 × ej_M)) :=
  if v1 ≤ v2 then
    (f_X8_knockOff_L49 v1 0 m).map fun y => (Sum.inr y)
  else
    (f_X10_at 8 v2 m).bind fun q1 =>
    (f_X4_weightOf q1.1 q1.2).bind fun q2 =>
    (f_X10_lay 17 v2 q2.1 q2.2).bind fun q3 =>
    some (Sum.inl ((v2 + 1), q3.2))
set_option maxHeartbeats 4000000 in
set_option maxRecDepth 100000 in
theorem b_X8_knockOff_L10b (e : Nat) (hd : 1 ≤ e) (v1 : Int32) (v2 : Int32) (m : ej_M) {x : ((Int32 × ej_M) ⊕ (Int32 × ej_M))} {res : Option Value × ej_H} {K : ((Int32 × ej_M) ⊕ (Int32 × ej_M)) → Prop} (hf : f_X8_knockOff_L10b v1 v2 m = some x) (hK : K x) (h1 : ∀ q : (Int32 × ej_M), K (Sum.inl q) → ej_Z cX8_knockOff 4 (some .boolean) RX8 "knockOff" (e + 1) 10 [(0, .ref 15), (1, .int v1), (2, .int q.1)] [] (ej_sh, q.2) res) (h0 : ∀ q : (Int32 × ej_M), K (Sum.inr q) → res = (some (Value.int q.1), (ej_sh, q.2))) : ej_Z cX8_knockOff 4 (some .boolean) RX8 "knockOff" (e + 1) 10 [(0, .ref 15), (1, .int v1), (2, .int v2)] [] (ej_sh, m) res := by
  unfold f_X8_knockOff_L10b at hf
  refine z_iload_n (pc := 10) (i := 2) (j := 2) dX8_knockOff_10 rfl rfl ?_
  refine z_iload_n (pc := 11) (i := 1) (j := 1) dX8_knockOff_11 rfl rfl ?_
  refine z_icmp_ge (pc := 12) (tgt := 47) dX8_knockOff_12 (by decide) (fun hc => ?_) (fun hc => ?_)
  · rw [if_pos hc] at hf
    refine z_iconst (pc := 47) dX8_knockOff_47 ki_0 ?_
    refine z_istore_n (pc := 48) (i := 2) (ls' := [(2, .int 0), (0, .ref 15), (1, .int v1)]) dX8_knockOff_48 rfl (Nat.le_of_ble_eq_true rfl) rfl ?_
    obtain ⟨y, hy, hxy⟩ := Option.map_eq_some_iff.mp hf
    subst hxy
    exact z_pick [1, 2, 0] rfl (b_X8_knockOff_L49 e hd v1 0 m (K := fun y => K (Sum.inr y)) hy hK  h0)
  · rw [if_neg hc] at hf
    refine z_aload_n (pc := 15) (i := 0) (j := 0) dX8_knockOff_15 rfl rfl ?_
    refine z_ogetR (pc := 16) dX8_knockOff_16 lf_RX8_15 sh_15 rfl rfl rfl ?_
    refine z_iload_n (pc := 19) (i := 2) (j := 2) dX8_knockOff_19 rfl rfl ?_
    refine z_aload_n (pc := 20) (i := 0) (j := 0) dX8_knockOff_20 rfl rfl ?_
    refine z_ogetR (pc := 21) dX8_knockOff_21 lf_RX8_18 sh_15 rfl rfl rfl ?_
    refine z_aload_n (pc := 24) (i := 0) (j := 0) dX8_knockOff_24 rfl rfl ?_
    refine z_ogetR (pc := 25) dX8_knockOff_25 lf_RX8_18 sh_15 rfl rfl rfl ?_
    refine z_ogetR (pc := 28) dX8_knockOff_28 lf_RX8_22 sh_6 rfl rfl rfl ?_
    refine z_iload_n (pc := 31) (i := 2) (j := 2) dX8_knockOff_31 rfl rfl ?_
    obtain ⟨q1, hq1, hf⟩ := Option.bind_eq_some_iff.mp hf
    refine z_oSi (pc := 32) (as := [.ref 8, .int v2]) (rest := [.ref 6, .int v2, .ref 17]) dX8_knockOff_32 lm_RX8_46 mf_X10_at ms_X10_at rfl rfl (Nat.le_of_ble_eq_true rfl) (c_X10_at e (by omega) 8 v2 m hq1) ?_
    obtain ⟨q2, hq2, hf⟩ := Option.bind_eq_some_iff.mp hf
    refine z_oVi (pc := 35) (as := [.int q1.1]) (rest := [.int v2, .ref 17]) dX8_knockOff_35 lm_RX8_56 mf_X4_weightOf mi_X4_weightOf mv_X4_weightOf rc_6 rfl rfl (Nat.le_of_ble_eq_true rfl) (c_X4_weightOf e (by omega) q1.1 q1.2 hq2) ?_
    obtain ⟨q3, hq3, hf⟩ := Option.bind_eq_some_iff.mp hf
    refine z_oSv (pc := 38) (as := [.ref 17, .int v2, .int q2.1]) (rest := []) dX8_knockOff_38 lm_RX8_60 mf_X10_lay ms_X10_lay rfl rfl (Nat.le_of_ble_eq_true rfl) (c_X10_lay e (by omega) 17 v2 q2.1 q2.2 hq3) ?_
    refine z_iinc (pc := 41) (j := 2) (ls' := [(2, .int (v2 + 1)), (0, .ref 15), (1, .int v1)]) dX8_knockOff_41 rfl ki_1 (Nat.le_of_ble_eq_true rfl) rfl ?_
    refine z_goto (pc := 44) (tgt := 10) dX8_knockOff_44 (by decide) ?_
    obtain rfl := Option.some.inj hf
    exact z_pick (ls' := [(0, .ref 15), (1, .int v1), (2, .int (v2 + 1))]) [1, 2, 0] rfl (h1 ((v2 + 1), q3.2) hK)
def f_X8_knockOff_L10 (v1 : Int32) (v2 : Int32) (m : ej_M) : Option (Int32 × ej_M) := oj_loop (fun q : (Int32 × ej_M) => f_X8_knockOff_L10b v1 q.1 q.2) oj_FU (v2, m)
set_option maxHeartbeats 4000000 in
set_option maxRecDepth 100000 in
theorem b_X8_knockOff_L10 (e : Nat) (hd : 1 ≤ e) (v1 : Int32) (v2 : Int32) (m : ej_M) {x : (Int32 × ej_M)} {res : Option Value × ej_H} {K : (Int32 × ej_M) → Prop} (hf : f_X8_knockOff_L10 v1 v2 m = some x) (hK : K x) (h0 : ∀ q : (Int32 × ej_M), K q → res = (some (Value.int q.1), (ej_sh, q.2))) : ej_Z cX8_knockOff 4 (some .boolean) RX8 "knockOff" (e + 1) 10 [(0, .ref 15), (1, .int v1), (2, .int v2)] [] (ej_sh, m) res :=
  oj_loop_Z (body := fun q : (Int32 × ej_M) => f_X8_knockOff_L10b v1 q.1 q.2) (P := fun q : (Int32 × ej_M) => ej_Z cX8_knockOff 4 (some .boolean) RX8 "knockOff" (e + 1) 10 [(0, .ref 15), (1, .int v1), (2, .int q.1)] [] (ej_sh, q.2) res) (K := K) (fun s x hb hl hr => b_X8_knockOff_L10b e hd v1  s.1 s.2 (K := fun x => (∀ s' : (Int32 × ej_M), x = Sum.inl s' → ej_Z cX8_knockOff 4 (some .boolean) RX8 "knockOff" (e + 1) 10 [(0, .ref 15), (1, .int v1), (2, .int s'.1)] [] (ej_sh, s'.2) res) ∧ ∀ e, x = Sum.inr e → K e) hb ⟨hl, hr⟩ (fun q hq => hq.1 q rfl) (fun q hq => h0 q (hq.2 _ rfl))) oj_FU (v2, m) x hf hK
def f_X8_knockOff  (m : ej_M) : Option (Int32 × ej_M) :=
  f_X8_knockOff_L10 (m.1 6 4) 0 m
set_option maxHeartbeats 4000000 in
set_option maxRecDepth 100000 in
theorem b_X8_knockOff (e : Nat) (hd : 1 ≤ e)  (m : ej_M) {x : (Int32 × ej_M)} {res : Option Value × ej_H} {K : (Int32 × ej_M) → Prop} (hf : f_X8_knockOff  m = some x) (hK : K x) (h0 : ∀ q : (Int32 × ej_M), K q → res = (some (Value.int q.1), (ej_sh, q.2))) : ej_Z cX8_knockOff 4 (some .boolean) RX8 "knockOff" (e + 1) 0 [(0, .ref 15)] [] (ej_sh, m) res := by
  unfold f_X8_knockOff at hf
  refine z_aload_n (pc := 0) (i := 0) (j := 0) dX8_knockOff_0 rfl rfl ?_
  refine z_ogetR (pc := 1) dX8_knockOff_1 lf_RX8_18 sh_15 rfl rfl rfl ?_
  refine z_ogetI (pc := 4) dX8_knockOff_4 lf_RX8_27 sh_6 rfl rfl ?_
  refine z_istore_n (pc := 7) (i := 1) (ls' := [(1, .int (m.1 6 4)), (0, .ref 15)]) dX8_knockOff_7 rfl (Nat.le_of_ble_eq_true rfl) rfl ?_
  refine z_iconst (pc := 8) dX8_knockOff_8 ki_0 ?_
  refine z_istore_n (pc := 9) (i := 2) (ls' := [(2, .int 0), (1, .int (m.1 6 4)), (0, .ref 15)]) dX8_knockOff_9 rfl (Nat.le_of_ble_eq_true rfl) rfl ?_
  exact z_pick [2, 1, 0] rfl (b_X8_knockOff_L10 e hd (m.1 6 4) 0 m (K := K) hf hK  h0)
set_option maxHeartbeats 4000000 in
set_option maxRecDepth 100000 in
theorem c_X8_knockOff (d : Nat) (hd : 2 ≤ d)  (m : ej_M) {q : (Int32 × ej_M)} (hf : f_X8_knockOff  m = some q) : ej_Ct yX8_knockOff cX8_knockOff 4 (some .boolean) d [.ref 15] (ej_sh, m) ((some (Value.int q.1), (ej_sh, q.2)) : Option Value × ej_H) := by
  obtain ⟨e, rfl⟩ : ∃ e, d = e + 1 := ⟨d - 1, by omega⟩
  exact z_met (by decide +kernel) (Nat.le_of_ble_eq_true rfl) (b_X8_knockOff e (by omega)  m (K := fun z => ((some (Value.int q.1), (ej_sh, q.2)) : Option Value × ej_H) = (some (Value.int z.1), (ej_sh, z.2))) hf rfl (fun _ h => h))
def f_X8_knockedOff_L4b (v1 : Int32) (v2 : Int32) (m : ej_M) : Option ((Int32 × Int32 × ej_M) ⊕ (Int32 × ej_M)) :=
  if (m.1 6 4) ≤ v2 then
    some (Sum.inr (v1, m))
  else
    (f_X10_at 8 v2 m).bind fun q1 =>
    (f_X4_weightOf q1.1 q1.2).bind fun q2 =>
    (f_X10_at 17 v2 q2.2).bind fun q3 =>
    some (Sum.inl ((v1 + (q2.1 - q3.1)), (v2 + 1), q3.2))
set_option maxHeartbeats 4000000 in
set_option maxRecDepth 100000 in
theorem b_X8_knockedOff_L4b (e : Nat) (hd : 1 ≤ e) (v1 : Int32) (v2 : Int32) (m : ej_M) {x : ((Int32 × Int32 × ej_M) ⊕ (Int32 × ej_M))} {res : Option Value × ej_H} {K : ((Int32 × Int32 × ej_M) ⊕ (Int32 × ej_M)) → Prop} (hf : f_X8_knockedOff_L4b v1 v2 m = some x) (hK : K x) (h1 : ∀ q : (Int32 × Int32 × ej_M), K (Sum.inl q) → ej_Z cX8_knockedOff 3 (some .int) RX8 "knockedOff" (e + 1) 4 [(0, .ref 15), (1, .int q.1), (2, .int q.2.1)] [] (ej_sh, q.2.2) res) (h0 : ∀ q : (Int32 × ej_M), K (Sum.inr q) → res = (some (Value.int q.1), (ej_sh, q.2))) : ej_Z cX8_knockedOff 3 (some .int) RX8 "knockedOff" (e + 1) 4 [(0, .ref 15), (1, .int v1), (2, .int v2)] [] (ej_sh, m) res := by
  unfold f_X8_knockedOff_L4b at hf
  refine z_iload_n (pc := 4) (i := 2) (j := 2) dX8_knockedOff_4 rfl rfl ?_
  refine z_aload_n (pc := 5) (i := 0) (j := 0) dX8_knockedOff_5 rfl rfl ?_
  refine z_ogetR (pc := 6) dX8_knockedOff_6 lf_RX8_18 sh_15 rfl rfl rfl ?_
  refine z_ogetI (pc := 9) dX8_knockedOff_9 lf_RX8_27 sh_6 rfl rfl ?_
  refine z_icmp_ge (pc := 12) (tgt := 51) dX8_knockedOff_12 (by decide) (fun hc => ?_) (fun hc => ?_)
  · rw [if_pos hc] at hf
    refine z_iload_n (pc := 51) (i := 1) (j := 1) dX8_knockedOff_51 rfl rfl ?_
    obtain rfl := Option.some.inj hf
    rw [h0 _ hK]
    exact z_iret dX8_knockedOff_52 rfl rfl
  · rw [if_neg hc] at hf
    refine z_iload_n (pc := 15) (i := 1) (j := 1) dX8_knockedOff_15 rfl rfl ?_
    refine z_aload_n (pc := 16) (i := 0) (j := 0) dX8_knockedOff_16 rfl rfl ?_
    refine z_ogetR (pc := 17) dX8_knockedOff_17 lf_RX8_18 sh_15 rfl rfl rfl ?_
    refine z_aload_n (pc := 20) (i := 0) (j := 0) dX8_knockedOff_20 rfl rfl ?_
    refine z_ogetR (pc := 21) dX8_knockedOff_21 lf_RX8_18 sh_15 rfl rfl rfl ?_
    refine z_ogetR (pc := 24) dX8_knockedOff_24 lf_RX8_22 sh_6 rfl rfl rfl ?_
    refine z_iload_n (pc := 27) (i := 2) (j := 2) dX8_knockedOff_27 rfl rfl ?_
    obtain ⟨q1, hq1, hf⟩ := Option.bind_eq_some_iff.mp hf
    refine z_oSi (pc := 28) (as := [.ref 8, .int v2]) (rest := [.ref 6, .int v1]) dX8_knockedOff_28 lm_RX8_46 mf_X10_at ms_X10_at rfl rfl (Nat.le_of_ble_eq_true rfl) (c_X10_at e (by omega) 8 v2 m hq1) ?_
    obtain ⟨q2, hq2, hf⟩ := Option.bind_eq_some_iff.mp hf
    refine z_oVi (pc := 31) (as := [.int q1.1]) (rest := [.int v1]) dX8_knockedOff_31 lm_RX8_56 mf_X4_weightOf mi_X4_weightOf mv_X4_weightOf rc_6 rfl rfl (Nat.le_of_ble_eq_true rfl) (c_X4_weightOf e (by omega) q1.1 q1.2 hq2) ?_
    refine z_aload_n (pc := 34) (i := 0) (j := 0) dX8_knockedOff_34 rfl rfl ?_
    refine z_ogetR (pc := 35) dX8_knockedOff_35 lf_RX8_15 sh_15 rfl rfl rfl ?_
    refine z_iload_n (pc := 38) (i := 2) (j := 2) dX8_knockedOff_38 rfl rfl ?_
    obtain ⟨q3, hq3, hf⟩ := Option.bind_eq_some_iff.mp hf
    refine z_oSi (pc := 39) (as := [.ref 17, .int v2]) (rest := [.int q2.1, .int v1]) dX8_knockedOff_39 lm_RX8_46 mf_X10_at ms_X10_at rfl rfl (Nat.le_of_ble_eq_true rfl) (c_X10_at e (by omega) 17 v2 q2.2 hq3) ?_
    refine z_isub (pc := 42) dX8_knockedOff_42 ?_
    refine z_iadd (pc := 43) dX8_knockedOff_43 ?_
    refine z_istore_n (pc := 44) (i := 1) (ls' := [(1, .int (v1 + (q2.1 - q3.1))), (0, .ref 15), (2, .int v2)]) dX8_knockedOff_44 rfl (Nat.le_of_ble_eq_true rfl) rfl ?_
    refine z_iinc (pc := 45) (j := 2) (ls' := [(2, .int (v2 + 1)), (1, .int (v1 + (q2.1 - q3.1))), (0, .ref 15)]) dX8_knockedOff_45 rfl ki_1 (Nat.le_of_ble_eq_true rfl) rfl ?_
    refine z_goto (pc := 48) (tgt := 4) dX8_knockedOff_48 (by decide) ?_
    obtain rfl := Option.some.inj hf
    exact z_pick (ls' := [(0, .ref 15), (1, .int (v1 + (q2.1 - q3.1))), (2, .int (v2 + 1))]) [2, 1, 0] rfl (h1 ((v1 + (q2.1 - q3.1)), (v2 + 1), q3.2) hK)
def f_X8_knockedOff_L4 (v1 : Int32) (v2 : Int32) (m : ej_M) : Option (Int32 × ej_M) := oj_loop (fun q : (Int32 × Int32 × ej_M) => f_X8_knockedOff_L4b q.1 q.2.1 q.2.2) oj_FU (v1, v2, m)
set_option maxHeartbeats 4000000 in
set_option maxRecDepth 100000 in
theorem b_X8_knockedOff_L4 (e : Nat) (hd : 1 ≤ e) (v1 : Int32) (v2 : Int32) (m : ej_M) {x : (Int32 × ej_M)} {res : Option Value × ej_H} {K : (Int32 × ej_M) → Prop} (hf : f_X8_knockedOff_L4 v1 v2 m = some x) (hK : K x) (h0 : ∀ q : (Int32 × ej_M), K q → res = (some (Value.int q.1), (ej_sh, q.2))) : ej_Z cX8_knockedOff 3 (some .int) RX8 "knockedOff" (e + 1) 4 [(0, .ref 15), (1, .int v1), (2, .int v2)] [] (ej_sh, m) res :=
  oj_loop_Z (body := fun q : (Int32 × Int32 × ej_M) => f_X8_knockedOff_L4b q.1 q.2.1 q.2.2) (P := fun q : (Int32 × Int32 × ej_M) => ej_Z cX8_knockedOff 3 (some .int) RX8 "knockedOff" (e + 1) 4 [(0, .ref 15), (1, .int q.1), (2, .int q.2.1)] [] (ej_sh, q.2.2) res) (K := K) (fun s x hb hl hr => b_X8_knockedOff_L4b e hd  s.1 s.2.1 s.2.2 (K := fun x => (∀ s' : (Int32 × Int32 × ej_M), x = Sum.inl s' → ej_Z cX8_knockedOff 3 (some .int) RX8 "knockedOff" (e + 1) 4 [(0, .ref 15), (1, .int s'.1), (2, .int s'.2.1)] [] (ej_sh, s'.2.2) res) ∧ ∀ e, x = Sum.inr e → K e) hb ⟨hl, hr⟩ (fun q hq => hq.1 q rfl) (fun q hq => h0 q (hq.2 _ rfl))) oj_FU (v1, v2, m) x hf hK
def f_X8_knockedOff  (m : ej_M) : Option (Int32 × ej_M) :=
  f_X8_knockedOff_L4 0 0 m
set_option maxHeartbeats 4000000 in
set_option maxRecDepth 100000 in
theorem b_X8_knockedOff (e : Nat) (hd : 1 ≤ e)  (m : ej_M) {x : (Int32 × ej_M)} {res : Option Value × ej_H} {K : (Int32 × ej_M) → Prop} (hf : f_X8_knockedOff  m = some x) (hK : K x) (h0 : ∀ q : (Int32 × ej_M), K q → res = (some (Value.int q.1), (ej_sh, q.2))) : ej_Z cX8_knockedOff 3 (some .int) RX8 "knockedOff" (e + 1) 0 [(0, .ref 15)] [] (ej_sh, m) res := by
  unfold f_X8_knockedOff at hf
  refine z_iconst (pc := 0) dX8_knockedOff_0 ki_0 ?_
  refine z_istore_n (pc := 1) (i := 1) (ls' := [(1, .int 0), (0, .ref 15)]) dX8_knockedOff_1 rfl (Nat.le_of_ble_eq_true rfl) rfl ?_
  refine z_iconst (pc := 2) dX8_knockedOff_2 ki_0 ?_
  refine z_istore_n (pc := 3) (i := 2) (ls' := [(2, .int 0), (1, .int 0), (0, .ref 15)]) dX8_knockedOff_3 rfl (Nat.le_of_ble_eq_true rfl) rfl ?_
  exact z_pick [2, 1, 0] rfl (b_X8_knockedOff_L4 e hd 0 0 m (K := K) hf hK  h0)
set_option maxHeartbeats 4000000 in
set_option maxRecDepth 100000 in
theorem c_X8_knockedOff (d : Nat) (hd : 2 ≤ d)  (m : ej_M) {q : (Int32 × ej_M)} (hf : f_X8_knockedOff  m = some q) : ej_Ct yX8_knockedOff cX8_knockedOff 3 (some .int) d [.ref 15] (ej_sh, m) ((some (Value.int q.1), (ej_sh, q.2)) : Option Value × ej_H) := by
  obtain ⟨e, rfl⟩ : ∃ e, d = e + 1 := ⟨d - 1, by omega⟩
  exact z_met (by decide +kernel) (Nat.le_of_ble_eq_true rfl) (b_X8_knockedOff e (by omega)  m (K := fun z => ((some (Value.int q.1), (ej_sh, q.2)) : Option Value × ej_H) = (some (Value.int z.1), (ej_sh, z.2))) hf rfl (fun _ h => h))
def f_X10_ounces (v1 : Int32) (m : ej_M) : Option (Int32 × ej_M) :=
  if v1 < (-1) then
    some ((-1), m)
  else
    if v1 < (m.1 6 4) then
      (f_X8_knockOff m).bind fun q1 =>
      if q1.1 = 0 then
        some ((-2), q1.2)
      else
        if v1 = (-1) then
          (f_X8_knockedOff q1.2).bind fun q3 =>
          some (q3.1, q3.2)
        else
          (f_X10_at 17 v1 q1.2).bind fun q2 =>
          some (q2.1, q2.2)
    else
      some ((-1), m)
set_option maxHeartbeats 4000000 in
set_option maxRecDepth 100000 in
theorem b_X10_ounces (e : Nat) (hd : 2 ≤ e) (v1 : Int32) (m : ej_M) {x : (Int32 × ej_M)} {res : Option Value × ej_H} {K : (Int32 × ej_M) → Prop} (hf : f_X10_ounces v1 m = some x) (hK : K x) (h0 : ∀ q : (Int32 × ej_M), K q → res = (some (Value.int q.1), (ej_sh, q.2))) : ej_Z cX10_ounces 2 (some .int) RX10 "ounces" (e + 1) 0 [(0, .ref 0), (1, .int v1)] [] (ej_sh, m) res := by
  unfold f_X10_ounces at hf
  refine z_iload_n (pc := 0) (i := 1) (j := 1) dX10_ounces_0 rfl rfl ?_
  refine z_iconst (pc := 1) dX10_ounces_1 ki_n1 ?_
  refine z_icmp_lt (pc := 2) (tgt := 16) dX10_ounces_2 (by decide) (fun hc => ?_) (fun hc => ?_)
  · rw [if_pos hc] at hf
    refine z_iconst (pc := 16) dX10_ounces_16 ki_n1 ?_
    obtain rfl := Option.some.inj hf
    rw [h0 _ hK]
    exact z_iret dX10_ounces_17 rfl rfl
  · rw [if_neg hc] at hf
    refine z_iload_n (pc := 5) (i := 1) (j := 1) dX10_ounces_5 rfl rfl ?_
    refine z_aload_n (pc := 6) (i := 0) (j := 0) dX10_ounces_6 rfl rfl ?_
    refine z_ogetR (pc := 7) dX10_ounces_7 lf_RX10_21 sh_0 rfl rfl rfl ?_
    refine z_ogetI (pc := 10) dX10_ounces_10 lf_RX10_136 sh_6 rfl rfl ?_
    refine z_icmp_lt (pc := 13) (tgt := 18) dX10_ounces_13 (by decide) (fun hc => ?_) (fun hc => ?_)
    · rw [if_pos hc] at hf
      refine z_aload_n (pc := 18) (i := 0) (j := 0) dX10_ounces_18 rfl rfl ?_
      refine z_ogetR (pc := 19) dX10_ounces_19 lf_RX10_37 sh_0 rfl rfl rfl ?_
      obtain ⟨q1, hq1, hf⟩ := Option.bind_eq_some_iff.mp hf
      refine z_oVi (pc := 22) (as := []) (rest := []) dX10_ounces_22 lm_RX10_197 mf_X8_knockOff mi_X8_knockOff mv_X8_knockOff rc_15 rfl rfl (Nat.le_of_ble_eq_true rfl) (c_X8_knockOff e (by omega) m hq1) ?_
      refine z_if_ne (pc := 25) (tgt := 31) dX10_ounces_25 (by decide) (fun hc => ?_) (fun hc => ?_)
      · rw [if_neg hc] at hf
        refine z_iload_n (pc := 31) (i := 1) (j := 1) dX10_ounces_31 rfl rfl ?_
        refine z_iconst (pc := 32) dX10_ounces_32 ki_n1 ?_
        refine z_icmp_ne (pc := 33) (tgt := 46) dX10_ounces_33 (by decide) (fun hc => ?_) (fun hc => ?_)
        · rw [if_neg hc] at hf
          refine z_aload_n (pc := 46) (i := 0) (j := 0) dX10_ounces_46 rfl rfl ?_
          refine z_ogetR (pc := 47) dX10_ounces_47 lf_RX10_37 sh_0 rfl rfl rfl ?_
          refine z_ogetR (pc := 50) dX10_ounces_50 lf_RX10_204 sh_15 rfl rfl rfl ?_
          refine z_iload_n (pc := 53) (i := 1) (j := 1) dX10_ounces_53 rfl rfl ?_
          obtain ⟨q2, hq2, hf⟩ := Option.bind_eq_some_iff.mp hf
          refine z_oSi (pc := 54) (as := [.ref 17, .int v1]) (rest := []) dX10_ounces_54 lm_RX10_125 mf_X10_at ms_X10_at rfl rfl (Nat.le_of_ble_eq_true rfl) (c_X10_at e (by omega) 17 v1 q1.2 hq2) ?_
          obtain rfl := Option.some.inj hf
          rw [h0 _ hK]
          exact z_iret dX10_ounces_57 rfl rfl
        · rw [if_pos hc] at hf
          refine z_aload_n (pc := 36) (i := 0) (j := 0) dX10_ounces_36 rfl rfl ?_
          refine z_ogetR (pc := 37) dX10_ounces_37 lf_RX10_37 sh_0 rfl rfl rfl ?_
          obtain ⟨q3, hq3, hf⟩ := Option.bind_eq_some_iff.mp hf
          refine z_oVi (pc := 40) (as := []) (rest := []) dX10_ounces_40 lm_RX10_201 mf_X8_knockedOff mi_X8_knockedOff mv_X8_knockedOff rc_15 rfl rfl (Nat.le_of_ble_eq_true rfl) (c_X8_knockedOff e (by omega) q1.2 hq3) ?_
          refine z_goto (pc := 43) (tgt := 57) dX10_ounces_43 (by decide) ?_
          obtain rfl := Option.some.inj hf
          rw [h0 _ hK]
          exact z_iret dX10_ounces_57 rfl rfl
      · rw [if_pos hc] at hf
        refine z_bipush (pc := 28) dX10_ounces_28 kb_n2 ?_
        obtain rfl := Option.some.inj hf
        rw [h0 _ hK]
        exact z_iret dX10_ounces_30 rfl rfl
    · rw [if_neg hc] at hf
      refine z_iconst (pc := 16) dX10_ounces_16 ki_n1 ?_
      obtain rfl := Option.some.inj hf
      rw [h0 _ hK]
      exact z_iret dX10_ounces_17 rfl rfl
set_option maxHeartbeats 4000000 in
set_option maxRecDepth 100000 in
theorem c_X10_ounces (d : Nat) (hd : 3 ≤ d) (v1 : Int32) (m : ej_M) {q : (Int32 × ej_M)} (hf : f_X10_ounces v1 m = some q) : ej_Ct yX10_ounces cX10_ounces 2 (some .int) d [.ref 0, .int v1] (ej_sh, m) ((some (Value.int q.1), (ej_sh, q.2)) : Option Value × ej_H) := by
  obtain ⟨e, rfl⟩ : ∃ e, d = e + 1 := ⟨d - 1, by omega⟩
  exact z_met (by decide +kernel) (Nat.le_of_ble_eq_true rfl) (b_X10_ounces e (by omega) v1 m (K := fun z => ((some (Value.int q.1), (ej_sh, q.2)) : Option Value × ej_H) = (some (Value.int z.1), (ej_sh, z.2))) hf rfl (fun _ h => h))
def f_X11_lessAt (v1 : Int32) (m : ej_M) : Option (Int32 × ej_M) :=
  (f_X11_in v1 0 ((m.1 41 4) - 1) m).bind fun q1 =>
  if q1.1 = 0 then
    if (q1.2.1 41 5) = 0 then
      some (0, q1.2)
    else
      if 0 ≤ v1 then
        (oj_ld 0 q1.2 58 0).bind fun w2 =>
        some (w2, q1.2)
      else
        (oj_ld 0 q1.2 58 ((q1.2.1 41 4) - 1)).bind fun w3 =>
        some (w3, q1.2)
  else
    (oj_ld 0 q1.2 58 v1).bind fun w4 =>
    some (w4, q1.2)
set_option maxHeartbeats 4000000 in
set_option maxRecDepth 100000 in
theorem b_X11_lessAt (e : Nat) (hd : 0 ≤ e) (v1 : Int32) (m : ej_M) {x : (Int32 × ej_M)} {res : Option Value × ej_H} {K : (Int32 × ej_M) → Prop} (hf : f_X11_lessAt v1 m = some x) (hK : K x) (h0 : ∀ q : (Int32 × ej_M), K q → res = (some (Value.int q.1), (ej_sh, q.2))) : ej_Z cX11_lessAt 2 (some .int) RX11 "lessAt" (e + 1) 0 [(0, .ref 41), (1, .int v1)] [] (ej_sh, m) res := by
  unfold f_X11_lessAt at hf
  refine z_iload_n (pc := 0) (i := 1) (j := 1) dX11_lessAt_0 rfl rfl ?_
  refine z_iconst (pc := 1) dX11_lessAt_1 ki_0 ?_
  refine z_aload_n (pc := 2) (i := 0) (j := 0) dX11_lessAt_2 rfl rfl ?_
  refine z_ogetI (pc := 3) dX11_lessAt_3 lf_RX11_108 sh_41 rfl rfl ?_
  refine z_iconst (pc := 6) dX11_lessAt_6 ki_1 ?_
  refine z_isub (pc := 7) dX11_lessAt_7 ?_
  obtain ⟨q1, hq1, hf⟩ := Option.bind_eq_some_iff.mp hf
  refine z_oSi (pc := 8) (as := [.int v1, .int 0, .int ((m.1 41 4) - 1)]) (rest := []) dX11_lessAt_8 lm_RX11_104 mf_X11_in ms_X11_in rfl rfl (Nat.le_of_ble_eq_true rfl) (c_X11_in e (by omega) v1 0 ((m.1 41 4) - 1) m hq1) ?_
  refine z_if_eq (pc := 11) (tgt := 21) dX11_lessAt_11 (by decide) (fun hc => ?_) (fun hc => ?_)
  · rw [if_pos hc] at hf
    refine z_aload_n (pc := 21) (i := 0) (j := 0) dX11_lessAt_21 rfl rfl ?_
    refine z_ogetI (pc := 22) dX11_lessAt_22 lf_RX11_119 sh_41 rfl rfl ?_
    refine z_if_ne (pc := 25) (tgt := 32) dX11_lessAt_25 (by decide) (fun hc => ?_) (fun hc => ?_)
    · rw [if_neg hc] at hf
      refine z_aload_n (pc := 32) (i := 0) (j := 0) dX11_lessAt_32 rfl rfl ?_
      refine z_ogetR (pc := 33) dX11_lessAt_33 lf_RX11_60 sh_41 rfl rfl rfl ?_
      refine z_iload_n (pc := 36) (i := 1) (j := 1) dX11_lessAt_36 rfl rfl ?_
      refine z_if_ge (pc := 37) (tgt := 49) dX11_lessAt_37 (by decide) (fun hc => ?_) (fun hc => ?_)
      · rw [if_pos hc] at hf
        refine z_iconst (pc := 49) dX11_lessAt_49 ki_0 ?_
        obtain ⟨w2, hw2, hf⟩ := Option.bind_eq_some_iff.mp hf
        refine z_oiald (pc := 50) dX11_lessAt_50 hw2 ?_
        obtain rfl := Option.some.inj hf
        rw [h0 _ hK]
        exact z_iret dX11_lessAt_51 rfl rfl
      · rw [if_neg hc] at hf
        refine z_aload_n (pc := 40) (i := 0) (j := 0) dX11_lessAt_40 rfl rfl ?_
        refine z_ogetI (pc := 41) dX11_lessAt_41 lf_RX11_108 sh_41 rfl rfl ?_
        refine z_iconst (pc := 44) dX11_lessAt_44 ki_1 ?_
        refine z_isub (pc := 45) dX11_lessAt_45 ?_
        refine z_goto (pc := 46) (tgt := 50) dX11_lessAt_46 (by decide) ?_
        obtain ⟨w3, hw3, hf⟩ := Option.bind_eq_some_iff.mp hf
        refine z_oiald (pc := 50) dX11_lessAt_50 hw3 ?_
        obtain rfl := Option.some.inj hf
        rw [h0 _ hK]
        exact z_iret dX11_lessAt_51 rfl rfl
    · rw [if_pos hc] at hf
      refine z_iconst (pc := 28) dX11_lessAt_28 ki_0 ?_
      refine z_goto (pc := 29) (tgt := 51) dX11_lessAt_29 (by decide) ?_
      obtain rfl := Option.some.inj hf
      rw [h0 _ hK]
      exact z_iret dX11_lessAt_51 rfl rfl
  · rw [if_neg hc] at hf
    refine z_aload_n (pc := 14) (i := 0) (j := 0) dX11_lessAt_14 rfl rfl ?_
    refine z_ogetR (pc := 15) dX11_lessAt_15 lf_RX11_60 sh_41 rfl rfl rfl ?_
    refine z_iload_n (pc := 18) (i := 1) (j := 1) dX11_lessAt_18 rfl rfl ?_
    obtain ⟨w4, hw4, hf⟩ := Option.bind_eq_some_iff.mp hf
    refine z_oiald (pc := 19) dX11_lessAt_19 hw4 ?_
    obtain rfl := Option.some.inj hf
    rw [h0 _ hK]
    exact z_iret dX11_lessAt_20 rfl rfl
set_option maxHeartbeats 4000000 in
set_option maxRecDepth 100000 in
theorem c_X11_lessAt (d : Nat) (hd : 1 ≤ d) (v1 : Int32) (m : ej_M) {q : (Int32 × ej_M)} (hf : f_X11_lessAt v1 m = some q) : ej_Ct yX11_lessAt cX11_lessAt 2 (some .int) d [.ref 41, .int v1] (ej_sh, m) ((some (Value.int q.1), (ej_sh, q.2)) : Option Value × ej_H) := by
  obtain ⟨e, rfl⟩ : ∃ e, d = e + 1 := ⟨d - 1, by omega⟩
  exact z_met (by decide +kernel) (Nat.le_of_ble_eq_true rfl) (b_X11_lessAt e (by omega) v1 m (K := fun z => ((some (Value.int q.1), (ej_sh, q.2)) : Option Value × ej_H) = (some (Value.int z.1), (ej_sh, z.2))) hf rfl (fun _ h => h))
def f_X11_findLess_L43b (v1 : Int32) (v2 : Int32) (m : ej_M) : Option ((Int32 × Int32 × ej_M) ⊕ ((Int32 × ej_M) ⊕ (Int32 × ej_M))) :=
  if (m.1 41 4) ≤ v2 then
    some (Sum.inr (Sum.inl (v1, m)))
  else
    (f_X11_lessAt (v2 - 1) m).bind fun q1 =>
    (f_X11_lessAt (v2 + 1) q1.2).bind fun q2 =>
    (oj_ld 0 q2.2 58 v2).bind fun w3 =>
    if (q1.1 + q2.1) < w3 then
      if 1 ≤ (q1.1 + q2.1) then
        (oj_st 0 q2.2 58 v2 (q1.1 + q2.1)).bind fun m4 =>
        some (Sum.inl (1, (v2 + 1), m4))
      else
        some (Sum.inr (Sum.inr (0, q2.2)))
    else
      some (Sum.inl (v1, (v2 + 1), q2.2))
set_option maxHeartbeats 4000000 in
set_option maxRecDepth 100000 in
theorem b_X11_findLess_L43b (e : Nat) (hd : 1 ≤ e) (v1 : Int32) (v2 : Int32) (m : ej_M) {x : ((Int32 × Int32 × ej_M) ⊕ ((Int32 × ej_M) ⊕ (Int32 × ej_M)))} {res : Option Value × ej_H} {K : ((Int32 × Int32 × ej_M) ⊕ ((Int32 × ej_M) ⊕ (Int32 × ej_M))) → Prop} (hf : f_X11_findLess_L43b v1 v2 m = some x) (hK : K x) (h1 : ∀ q : (Int32 × Int32 × ej_M), K (Sum.inl q) → ej_Z cX11_findLess 4 (some .boolean) RX11 "findLess" (e + 1) 43 [(0, .ref 41), (1, .int q.1), (2, .int q.2.1)] [] (ej_sh, q.2.2) res) (h2 : ∀ q : (Int32 × ej_M), K (Sum.inr (Sum.inl q)) → ej_Z cX11_findLess 4 (some .boolean) RX11 "findLess" (e + 1) 35 [(0, .ref 41), (1, .int q.1)] [] (ej_sh, q.2) res) (h0 : ∀ q : (Int32 × ej_M), K (Sum.inr (Sum.inr q)) → res = (some (Value.int q.1), (ej_sh, q.2))) : ej_Z cX11_findLess 4 (some .boolean) RX11 "findLess" (e + 1) 43 [(0, .ref 41), (1, .int v1), (2, .int v2)] [] (ej_sh, m) res := by
  unfold f_X11_findLess_L43b at hf
  refine z_iload_n (pc := 43) (i := 2) (j := 2) dX11_findLess_43 rfl rfl ?_
  refine z_aload_n (pc := 44) (i := 0) (j := 0) dX11_findLess_44 rfl rfl ?_
  refine z_ogetI (pc := 45) dX11_findLess_45 lf_RX11_108 sh_41 rfl rfl ?_
  refine z_icmp_ge (pc := 48) (tgt := 102) dX11_findLess_48 (by decide) (fun hc => ?_) (fun hc => ?_)
  · rw [if_pos hc] at hf
    refine z_goto (pc := 102) (tgt := 35) dX11_findLess_102 (by decide) ?_
    obtain rfl := Option.some.inj hf
    exact z_pick (ls' := [(0, .ref 41), (1, .int v1)]) [0, 1] rfl (h2 (v1, m) hK)
  · rw [if_neg hc] at hf
    refine z_aload_n (pc := 51) (i := 0) (j := 0) dX11_findLess_51 rfl rfl ?_
    refine z_iload_n (pc := 52) (i := 2) (j := 2) dX11_findLess_52 rfl rfl ?_
    refine z_iconst (pc := 53) dX11_findLess_53 ki_1 ?_
    refine z_isub (pc := 54) dX11_findLess_54 ?_
    obtain ⟨q1, hq1, hf⟩ := Option.bind_eq_some_iff.mp hf
    refine z_oVi (pc := 55) (as := [.int (v2 - 1)]) (rest := []) dX11_findLess_55 lm_RX11_282 mf_X11_lessAt mi_X11_lessAt mv_X11_lessAt rc_41 rfl rfl (Nat.le_of_ble_eq_true rfl) (c_X11_lessAt e (by omega) (v2 - 1) m hq1) ?_
    refine z_aload_n (pc := 58) (i := 0) (j := 0) dX11_findLess_58 rfl rfl ?_
    refine z_iload_n (pc := 59) (i := 2) (j := 2) dX11_findLess_59 rfl rfl ?_
    refine z_iconst (pc := 60) dX11_findLess_60 ki_1 ?_
    refine z_iadd (pc := 61) dX11_findLess_61 ?_
    obtain ⟨q2, hq2, hf⟩ := Option.bind_eq_some_iff.mp hf
    refine z_oVi (pc := 62) (as := [.int (v2 + 1)]) (rest := [.int q1.1]) dX11_findLess_62 lm_RX11_282 mf_X11_lessAt mi_X11_lessAt mv_X11_lessAt rc_41 rfl rfl (Nat.le_of_ble_eq_true rfl) (c_X11_lessAt e (by omega) (v2 + 1) q1.2 hq2) ?_
    refine z_iadd (pc := 65) dX11_findLess_65 ?_
    refine z_istore_n (pc := 66) (i := 3) (ls' := [(3, .int (q1.1 + q2.1)), (0, .ref 41), (1, .int v1), (2, .int v2)]) dX11_findLess_66 rfl (Nat.le_of_ble_eq_true rfl) rfl ?_
    refine z_aload_n (pc := 67) (i := 0) (j := 1) dX11_findLess_67 rfl rfl ?_
    refine z_ogetR (pc := 68) dX11_findLess_68 lf_RX11_60 sh_41 rfl rfl rfl ?_
    refine z_iload_n (pc := 71) (i := 2) (j := 3) dX11_findLess_71 rfl rfl ?_
    obtain ⟨w3, hw3, hf⟩ := Option.bind_eq_some_iff.mp hf
    refine z_oiald (pc := 72) dX11_findLess_72 hw3 ?_
    refine z_iload_n (pc := 73) (i := 3) (j := 0) dX11_findLess_73 rfl rfl ?_
    refine z_icmp_gt (pc := 74) (tgt := 80) dX11_findLess_74 (by decide) (fun hc => ?_) (fun hc => ?_)
    · rw [if_pos hc] at hf
      refine z_iload_n (pc := 80) (i := 3) (j := 0) dX11_findLess_80 rfl rfl ?_
      refine z_iconst (pc := 81) dX11_findLess_81 ki_1 ?_
      refine z_icmp_ge (pc := 82) (tgt := 87) dX11_findLess_82 (by decide) (fun hc => ?_) (fun hc => ?_)
      · rw [if_pos hc] at hf
        refine z_aload_n (pc := 87) (i := 0) (j := 1) dX11_findLess_87 rfl rfl ?_
        refine z_ogetR (pc := 88) dX11_findLess_88 lf_RX11_60 sh_41 rfl rfl rfl ?_
        refine z_iload_n (pc := 91) (i := 2) (j := 3) dX11_findLess_91 rfl rfl ?_
        refine z_iload_n (pc := 92) (i := 3) (j := 0) dX11_findLess_92 rfl rfl ?_
        obtain ⟨m4, hm4, hf⟩ := Option.bind_eq_some_iff.mp hf
        refine z_oiast (pc := 93) dX11_findLess_93 hm4 ?_
        refine z_iconst (pc := 94) dX11_findLess_94 ki_1 ?_
        refine z_istore_n (pc := 95) (i := 1) (ls' := [(1, .int 1), (3, .int (q1.1 + q2.1)), (0, .ref 41), (2, .int v2)]) dX11_findLess_95 rfl (Nat.le_of_ble_eq_true rfl) rfl ?_
        refine z_iinc (pc := 96) (j := 3) (ls' := [(2, .int (v2 + 1)), (1, .int 1), (3, .int (q1.1 + q2.1)), (0, .ref 41)]) dX11_findLess_96 rfl ki_1 (Nat.le_of_ble_eq_true rfl) rfl ?_
        refine z_goto (pc := 99) (tgt := 43) dX11_findLess_99 (by decide) ?_
        obtain rfl := Option.some.inj hf
        exact z_pick (ls' := [(0, .ref 41), (1, .int 1), (2, .int (v2 + 1))]) [3, 1, 0] rfl (h1 (1, (v2 + 1), m4) hK)
      · rw [if_neg hc] at hf
        refine z_iconst (pc := 85) dX11_findLess_85 ki_0 ?_
        obtain rfl := Option.some.inj hf
        rw [h0 _ hK]
        exact z_iret dX11_findLess_86 rfl rfl
    · rw [if_neg hc] at hf
      refine z_goto (pc := 77) (tgt := 96) dX11_findLess_77 (by decide) ?_
      refine z_iinc (pc := 96) (j := 3) (ls' := [(2, .int (v2 + 1)), (3, .int (q1.1 + q2.1)), (0, .ref 41), (1, .int v1)]) dX11_findLess_96 rfl ki_1 (Nat.le_of_ble_eq_true rfl) rfl ?_
      refine z_goto (pc := 99) (tgt := 43) dX11_findLess_99 (by decide) ?_
      obtain rfl := Option.some.inj hf
      exact z_pick (ls' := [(0, .ref 41), (1, .int v1), (2, .int (v2 + 1))]) [2, 3, 0] rfl (h1 (v1, (v2 + 1), q2.2) hK)
def f_X11_findLess_L43 (v1 : Int32) (v2 : Int32) (m : ej_M) : Option ((Int32 × ej_M) ⊕ (Int32 × ej_M)) := oj_loop (fun q : (Int32 × Int32 × ej_M) => f_X11_findLess_L43b q.1 q.2.1 q.2.2) oj_FU (v1, v2, m)
set_option maxHeartbeats 4000000 in
set_option maxRecDepth 100000 in
theorem b_X11_findLess_L43 (e : Nat) (hd : 1 ≤ e) (v1 : Int32) (v2 : Int32) (m : ej_M) {x : ((Int32 × ej_M) ⊕ (Int32 × ej_M))} {res : Option Value × ej_H} {K : ((Int32 × ej_M) ⊕ (Int32 × ej_M)) → Prop} (hf : f_X11_findLess_L43 v1 v2 m = some x) (hK : K x) (h1 : ∀ q : (Int32 × ej_M), K (Sum.inl q) → ej_Z cX11_findLess 4 (some .boolean) RX11 "findLess" (e + 1) 35 [(0, .ref 41), (1, .int q.1)] [] (ej_sh, q.2) res) (h0 : ∀ q : (Int32 × ej_M), K (Sum.inr q) → res = (some (Value.int q.1), (ej_sh, q.2))) : ej_Z cX11_findLess 4 (some .boolean) RX11 "findLess" (e + 1) 43 [(0, .ref 41), (1, .int v1), (2, .int v2)] [] (ej_sh, m) res :=
  oj_loop_Z (body := fun q : (Int32 × Int32 × ej_M) => f_X11_findLess_L43b q.1 q.2.1 q.2.2) (P := fun q : (Int32 × Int32 × ej_M) => ej_Z cX11_findLess 4 (some .boolean) RX11 "findLess" (e + 1) 43 [(0, .ref 41), (1, .int q.1), (2, .int q.2.1)] [] (ej_sh, q.2.2) res) (K := K) (fun s x hb hl hr => b_X11_findLess_L43b e hd  s.1 s.2.1 s.2.2 (K := fun x => (∀ s' : (Int32 × Int32 × ej_M), x = Sum.inl s' → ej_Z cX11_findLess 4 (some .boolean) RX11 "findLess" (e + 1) 43 [(0, .ref 41), (1, .int s'.1), (2, .int s'.2.1)] [] (ej_sh, s'.2.2) res) ∧ ∀ e, x = Sum.inr e → K e) hb ⟨hl, hr⟩ (fun q hq => hq.1 q rfl) (fun q hq => h1 q (hq.2 _ rfl)) (fun q hq => h0 q (hq.2 _ rfl))) oj_FU (v1, v2, m) x hf hK
def f_X11_findLess_L35b (v1 : Int32) (m : ej_M) : Option ((Int32 × ej_M) ⊕ (Int32 × ej_M)) :=
  if v1 = 0 then
    some (Sum.inr (1, m))
  else
    f_X11_findLess_L43 0 0 m
set_option maxHeartbeats 4000000 in
set_option maxRecDepth 100000 in
theorem b_X11_findLess_L35b (e : Nat) (hd : 1 ≤ e) (v1 : Int32) (m : ej_M) {x : ((Int32 × ej_M) ⊕ (Int32 × ej_M))} {res : Option Value × ej_H} {K : ((Int32 × ej_M) ⊕ (Int32 × ej_M)) → Prop} (hf : f_X11_findLess_L35b v1 m = some x) (hK : K x) (h1 : ∀ q : (Int32 × ej_M), K (Sum.inl q) → ej_Z cX11_findLess 4 (some .boolean) RX11 "findLess" (e + 1) 35 [(0, .ref 41), (1, .int q.1)] [] (ej_sh, q.2) res) (h0 : ∀ q : (Int32 × ej_M), K (Sum.inr q) → res = (some (Value.int q.1), (ej_sh, q.2))) : ej_Z cX11_findLess 4 (some .boolean) RX11 "findLess" (e + 1) 35 [(0, .ref 41), (1, .int v1)] [] (ej_sh, m) res := by
  unfold f_X11_findLess_L35b at hf
  refine z_iload_n (pc := 35) (i := 1) (j := 1) dX11_findLess_35 rfl rfl ?_
  refine z_if_eq (pc := 36) (tgt := 105) dX11_findLess_36 (by decide) (fun hc => ?_) (fun hc => ?_)
  · rw [if_pos hc] at hf
    refine z_iconst (pc := 105) dX11_findLess_105 ki_1 ?_
    obtain rfl := Option.some.inj hf
    rw [h0 _ hK]
    exact z_iret dX11_findLess_106 rfl rfl
  · rw [if_neg hc] at hf
    refine z_iconst (pc := 39) dX11_findLess_39 ki_0 ?_
    refine z_istore_n (pc := 40) (i := 1) (ls' := [(1, .int 0), (0, .ref 41)]) dX11_findLess_40 rfl (Nat.le_of_ble_eq_true rfl) rfl ?_
    refine z_iconst (pc := 41) dX11_findLess_41 ki_0 ?_
    refine z_istore_n (pc := 42) (i := 2) (ls' := [(2, .int 0), (1, .int 0), (0, .ref 41)]) dX11_findLess_42 rfl (Nat.le_of_ble_eq_true rfl) rfl ?_
    exact z_pick [2, 1, 0] rfl (b_X11_findLess_L43 e hd 0 0 m (K := K) hf hK h1 h0)
def f_X11_findLess_L35 (v1 : Int32) (m : ej_M) : Option (Int32 × ej_M) := oj_loop (fun q : (Int32 × ej_M) => f_X11_findLess_L35b q.1 q.2) oj_FU (v1, m)
set_option maxHeartbeats 4000000 in
set_option maxRecDepth 100000 in
theorem b_X11_findLess_L35 (e : Nat) (hd : 1 ≤ e) (v1 : Int32) (m : ej_M) {x : (Int32 × ej_M)} {res : Option Value × ej_H} {K : (Int32 × ej_M) → Prop} (hf : f_X11_findLess_L35 v1 m = some x) (hK : K x) (h0 : ∀ q : (Int32 × ej_M), K q → res = (some (Value.int q.1), (ej_sh, q.2))) : ej_Z cX11_findLess 4 (some .boolean) RX11 "findLess" (e + 1) 35 [(0, .ref 41), (1, .int v1)] [] (ej_sh, m) res :=
  oj_loop_Z (body := fun q : (Int32 × ej_M) => f_X11_findLess_L35b q.1 q.2) (P := fun q : (Int32 × ej_M) => ej_Z cX11_findLess 4 (some .boolean) RX11 "findLess" (e + 1) 35 [(0, .ref 41), (1, .int q.1)] [] (ej_sh, q.2) res) (K := K) (fun s x hb hl hr => b_X11_findLess_L35b e hd  s.1 s.2 (K := fun x => (∀ s' : (Int32 × ej_M), x = Sum.inl s' → ej_Z cX11_findLess 4 (some .boolean) RX11 "findLess" (e + 1) 35 [(0, .ref 41), (1, .int s'.1)] [] (ej_sh, s'.2) res) ∧ ∀ e, x = Sum.inr e → K e) hb ⟨hl, hr⟩ (fun q hq => hq.1 q rfl) (fun q hq => h0 q (hq.2 _ rfl))) oj_FU (v1, m) x hf hK
def f_X11_findLess_L2b (v1 : Int32) (m : ej_M) : Option ((Int32 × ej_M) ⊕ (Int32 × ej_M)) :=
  if (m.1 41 4) ≤ v1 then
    (f_X11_findLess_L35 1 m).map fun y => (Sum.inr y)
  else
    (oj_ld 0 m 43 v1).bind fun w1 =>
    (oj_ld 0 m 42 w1).bind fun w2 =>
    (oj_st 0 m 58 v1 w2).bind fun m3 =>
    some (Sum.inl ((v1 + 1), m3))
set_option maxHeartbeats 4000000 in
set_option maxRecDepth 100000 in
theorem b_X11_findLess_L2b (e : Nat) (hd : 1 ≤ e) (v1 : Int32) (m : ej_M) {x : ((Int32 × ej_M) ⊕ (Int32 × ej_M))} {res : Option Value × ej_H} {K : ((Int32 × ej_M) ⊕ (Int32 × ej_M)) → Prop} (hf : f_X11_findLess_L2b v1 m = some x) (hK : K x) (h1 : ∀ q : (Int32 × ej_M), K (Sum.inl q) → ej_Z cX11_findLess 4 (some .boolean) RX11 "findLess" (e + 1) 2 [(0, .ref 41), (1, .int q.1)] [] (ej_sh, q.2) res) (h0 : ∀ q : (Int32 × ej_M), K (Sum.inr q) → res = (some (Value.int q.1), (ej_sh, q.2))) : ej_Z cX11_findLess 4 (some .boolean) RX11 "findLess" (e + 1) 2 [(0, .ref 41), (1, .int v1)] [] (ej_sh, m) res := by
  unfold f_X11_findLess_L2b at hf
  refine z_iload_n (pc := 2) (i := 1) (j := 1) dX11_findLess_2 rfl rfl ?_
  refine z_aload_n (pc := 3) (i := 0) (j := 0) dX11_findLess_3 rfl rfl ?_
  refine z_ogetI (pc := 4) dX11_findLess_4 lf_RX11_108 sh_41 rfl rfl ?_
  refine z_icmp_ge (pc := 7) (tgt := 33) dX11_findLess_7 (by decide) (fun hc => ?_) (fun hc => ?_)
  · rw [if_pos hc] at hf
    refine z_iconst (pc := 33) dX11_findLess_33 ki_1 ?_
    refine z_istore_n (pc := 34) (i := 1) (ls' := [(1, .int 1), (0, .ref 41)]) dX11_findLess_34 rfl (Nat.le_of_ble_eq_true rfl) rfl ?_
    obtain ⟨y, hy, hxy⟩ := Option.map_eq_some_iff.mp hf
    subst hxy
    exact z_pick [1, 0] rfl (b_X11_findLess_L35 e hd 1 m (K := fun y => K (Sum.inr y)) hy hK  h0)
  · rw [if_neg hc] at hf
    refine z_aload_n (pc := 10) (i := 0) (j := 0) dX11_findLess_10 rfl rfl ?_
    refine z_ogetR (pc := 11) dX11_findLess_11 lf_RX11_60 sh_41 rfl rfl rfl ?_
    refine z_iload_n (pc := 14) (i := 1) (j := 1) dX11_findLess_14 rfl rfl ?_
    refine z_aload_n (pc := 15) (i := 0) (j := 0) dX11_findLess_15 rfl rfl ?_
    refine z_ogetR (pc := 16) dX11_findLess_16 lf_RX11_7 sh_41 rfl rfl rfl ?_
    refine z_aload_n (pc := 19) (i := 0) (j := 0) dX11_findLess_19 rfl rfl ?_
    refine z_ogetR (pc := 20) dX11_findLess_20 lf_RX11_13 sh_41 rfl rfl rfl ?_
    refine z_iload_n (pc := 23) (i := 1) (j := 1) dX11_findLess_23 rfl rfl ?_
    obtain ⟨w1, hw1, hf⟩ := Option.bind_eq_some_iff.mp hf
    refine z_oiald (pc := 24) dX11_findLess_24 hw1 ?_
    obtain ⟨w2, hw2, hf⟩ := Option.bind_eq_some_iff.mp hf
    refine z_oiald (pc := 25) dX11_findLess_25 hw2 ?_
    obtain ⟨m3, hm3, hf⟩ := Option.bind_eq_some_iff.mp hf
    refine z_oiast (pc := 26) dX11_findLess_26 hm3 ?_
    refine z_iinc (pc := 27) (j := 1) (ls' := [(1, .int (v1 + 1)), (0, .ref 41)]) dX11_findLess_27 rfl ki_1 (Nat.le_of_ble_eq_true rfl) rfl ?_
    refine z_goto (pc := 30) (tgt := 2) dX11_findLess_30 (by decide) ?_
    obtain rfl := Option.some.inj hf
    exact z_pick (ls' := [(0, .ref 41), (1, .int (v1 + 1))]) [1, 0] rfl (h1 ((v1 + 1), m3) hK)
def f_X11_findLess_L2 (v1 : Int32) (m : ej_M) : Option (Int32 × ej_M) := oj_loop (fun q : (Int32 × ej_M) => f_X11_findLess_L2b q.1 q.2) oj_FU (v1, m)
set_option maxHeartbeats 4000000 in
set_option maxRecDepth 100000 in
theorem b_X11_findLess_L2 (e : Nat) (hd : 1 ≤ e) (v1 : Int32) (m : ej_M) {x : (Int32 × ej_M)} {res : Option Value × ej_H} {K : (Int32 × ej_M) → Prop} (hf : f_X11_findLess_L2 v1 m = some x) (hK : K x) (h0 : ∀ q : (Int32 × ej_M), K q → res = (some (Value.int q.1), (ej_sh, q.2))) : ej_Z cX11_findLess 4 (some .boolean) RX11 "findLess" (e + 1) 2 [(0, .ref 41), (1, .int v1)] [] (ej_sh, m) res :=
  oj_loop_Z (body := fun q : (Int32 × ej_M) => f_X11_findLess_L2b q.1 q.2) (P := fun q : (Int32 × ej_M) => ej_Z cX11_findLess 4 (some .boolean) RX11 "findLess" (e + 1) 2 [(0, .ref 41), (1, .int q.1)] [] (ej_sh, q.2) res) (K := K) (fun s x hb hl hr => b_X11_findLess_L2b e hd  s.1 s.2 (K := fun x => (∀ s' : (Int32 × ej_M), x = Sum.inl s' → ej_Z cX11_findLess 4 (some .boolean) RX11 "findLess" (e + 1) 2 [(0, .ref 41), (1, .int s'.1)] [] (ej_sh, s'.2) res) ∧ ∀ e, x = Sum.inr e → K e) hb ⟨hl, hr⟩ (fun q hq => hq.1 q rfl) (fun q hq => h0 q (hq.2 _ rfl))) oj_FU (v1, m) x hf hK
def f_X11_findLess  (m : ej_M) : Option (Int32 × ej_M) :=
  f_X11_findLess_L2 0 m
set_option maxHeartbeats 4000000 in
set_option maxRecDepth 100000 in
theorem b_X11_findLess (e : Nat) (hd : 1 ≤ e)  (m : ej_M) {x : (Int32 × ej_M)} {res : Option Value × ej_H} {K : (Int32 × ej_M) → Prop} (hf : f_X11_findLess  m = some x) (hK : K x) (h0 : ∀ q : (Int32 × ej_M), K q → res = (some (Value.int q.1), (ej_sh, q.2))) : ej_Z cX11_findLess 4 (some .boolean) RX11 "findLess" (e + 1) 0 [(0, .ref 41)] [] (ej_sh, m) res := by
  unfold f_X11_findLess at hf
  refine z_iconst (pc := 0) dX11_findLess_0 ki_0 ?_
  refine z_istore_n (pc := 1) (i := 1) (ls' := [(1, .int 0), (0, .ref 41)]) dX11_findLess_1 rfl (Nat.le_of_ble_eq_true rfl) rfl ?_
  exact z_pick [1, 0] rfl (b_X11_findLess_L2 e hd 0 m (K := K) hf hK  h0)
set_option maxHeartbeats 4000000 in
set_option maxRecDepth 100000 in
theorem c_X11_findLess (d : Nat) (hd : 2 ≤ d)  (m : ej_M) {q : (Int32 × ej_M)} (hf : f_X11_findLess  m = some q) : ej_Ct yX11_findLess cX11_findLess 4 (some .boolean) d [.ref 41] (ej_sh, m) ((some (Value.int q.1), (ej_sh, q.2)) : Option Value × ej_H) := by
  obtain ⟨e, rfl⟩ : ∃ e, d = e + 1 := ⟨d - 1, by omega⟩
  exact z_met (by decide +kernel) (Nat.le_of_ble_eq_true rfl) (b_X11_findLess e (by omega)  m (K := fun z => ((some (Value.int q.1), (ej_sh, q.2)) : Option Value × ej_H) = (some (Value.int z.1), (ej_sh, z.2))) hf rfl (fun _ h => h))
def f_X11_ounces_L41b (v2 : Int32) (v3 : Int32) (m : ej_M) : Option ((Int32 × Int32 × ej_M) ⊕ (Int32 × ej_M)) :=
  if (m.1 41 4) ≤ v3 then
    some (Sum.inr (v2, m))
  else
    (oj_ld 0 m 43 v3).bind fun w1 =>
    (oj_ld 0 m 42 w1).bind fun w2 =>
    (oj_ld 0 m 58 v3).bind fun w3 =>
    some (Sum.inl ((v2 + (w2 - w3)), (v3 + 1), m))
set_option maxHeartbeats 4000000 in
set_option maxRecDepth 100000 in
theorem b_X11_ounces_L41b (e : Nat) (hd : 2 ≤ e) (v2 : Int32) (v3 : Int32) (m : ej_M) {x : ((Int32 × Int32 × ej_M) ⊕ (Int32 × ej_M))} {res : Option Value × ej_H} {K : ((Int32 × Int32 × ej_M) ⊕ (Int32 × ej_M)) → Prop} (hf : f_X11_ounces_L41b v2 v3 m = some x) (hK : K x) (h1 : ∀ q : (Int32 × Int32 × ej_M), K (Sum.inl q) → ej_Z cX11_ounces 4 (some .int) RX11 "ounces" (e + 1) 41 [(0, .ref 41), (2, .int q.1), (3, .int q.2.1)] [] (ej_sh, q.2.2) res) (h0 : ∀ q : (Int32 × ej_M), K (Sum.inr q) → res = (some (Value.int q.1), (ej_sh, q.2))) : ej_Z cX11_ounces 4 (some .int) RX11 "ounces" (e + 1) 41 [(0, .ref 41), (2, .int v2), (3, .int v3)] [] (ej_sh, m) res := by
  unfold f_X11_ounces_L41b at hf
  refine z_iload_n (pc := 41) (i := 3) (j := 2) dX11_ounces_41 rfl rfl ?_
  refine z_aload_n (pc := 42) (i := 0) (j := 0) dX11_ounces_42 rfl rfl ?_
  refine z_ogetI (pc := 43) dX11_ounces_43 lf_RX11_108 sh_41 rfl rfl ?_
  refine z_icmp_ge (pc := 46) (tgt := 76) dX11_ounces_46 (by decide) (fun hc => ?_) (fun hc => ?_)
  · rw [if_pos hc] at hf
    refine z_iload_n (pc := 76) (i := 2) (j := 1) dX11_ounces_76 rfl rfl ?_
    obtain rfl := Option.some.inj hf
    rw [h0 _ hK]
    exact z_iret dX11_ounces_77 rfl rfl
  · rw [if_neg hc] at hf
    refine z_iload_n (pc := 49) (i := 2) (j := 1) dX11_ounces_49 rfl rfl ?_
    refine z_aload_n (pc := 50) (i := 0) (j := 0) dX11_ounces_50 rfl rfl ?_
    refine z_ogetR (pc := 51) dX11_ounces_51 lf_RX11_7 sh_41 rfl rfl rfl ?_
    refine z_aload_n (pc := 54) (i := 0) (j := 0) dX11_ounces_54 rfl rfl ?_
    refine z_ogetR (pc := 55) dX11_ounces_55 lf_RX11_13 sh_41 rfl rfl rfl ?_
    refine z_iload_n (pc := 58) (i := 3) (j := 2) dX11_ounces_58 rfl rfl ?_
    obtain ⟨w1, hw1, hf⟩ := Option.bind_eq_some_iff.mp hf
    refine z_oiald (pc := 59) dX11_ounces_59 hw1 ?_
    obtain ⟨w2, hw2, hf⟩ := Option.bind_eq_some_iff.mp hf
    refine z_oiald (pc := 60) dX11_ounces_60 hw2 ?_
    refine z_aload_n (pc := 61) (i := 0) (j := 0) dX11_ounces_61 rfl rfl ?_
    refine z_ogetR (pc := 62) dX11_ounces_62 lf_RX11_60 sh_41 rfl rfl rfl ?_
    refine z_iload_n (pc := 65) (i := 3) (j := 2) dX11_ounces_65 rfl rfl ?_
    obtain ⟨w3, hw3, hf⟩ := Option.bind_eq_some_iff.mp hf
    refine z_oiald (pc := 66) dX11_ounces_66 hw3 ?_
    refine z_isub (pc := 67) dX11_ounces_67 ?_
    refine z_iadd (pc := 68) dX11_ounces_68 ?_
    refine z_istore_n (pc := 69) (i := 2) (ls' := [(2, .int (v2 + (w2 - w3))), (0, .ref 41), (3, .int v3)]) dX11_ounces_69 rfl (Nat.le_of_ble_eq_true rfl) rfl ?_
    refine z_iinc (pc := 70) (j := 2) (ls' := [(3, .int (v3 + 1)), (2, .int (v2 + (w2 - w3))), (0, .ref 41)]) dX11_ounces_70 rfl ki_1 (Nat.le_of_ble_eq_true rfl) rfl ?_
    refine z_goto (pc := 73) (tgt := 41) dX11_ounces_73 (by decide) ?_
    obtain rfl := Option.some.inj hf
    exact z_pick (ls' := [(0, .ref 41), (2, .int (v2 + (w2 - w3))), (3, .int (v3 + 1))]) [2, 1, 0] rfl (h1 ((v2 + (w2 - w3)), (v3 + 1), m) hK)
def f_X11_ounces_L41 (v2 : Int32) (v3 : Int32) (m : ej_M) : Option (Int32 × ej_M) := oj_loop (fun q : (Int32 × Int32 × ej_M) => f_X11_ounces_L41b q.1 q.2.1 q.2.2) oj_FU (v2, v3, m)
set_option maxHeartbeats 4000000 in
set_option maxRecDepth 100000 in
theorem b_X11_ounces_L41 (e : Nat) (hd : 2 ≤ e) (v2 : Int32) (v3 : Int32) (m : ej_M) {x : (Int32 × ej_M)} {res : Option Value × ej_H} {K : (Int32 × ej_M) → Prop} (hf : f_X11_ounces_L41 v2 v3 m = some x) (hK : K x) (h0 : ∀ q : (Int32 × ej_M), K q → res = (some (Value.int q.1), (ej_sh, q.2))) : ej_Z cX11_ounces 4 (some .int) RX11 "ounces" (e + 1) 41 [(0, .ref 41), (2, .int v2), (3, .int v3)] [] (ej_sh, m) res :=
  oj_loop_Z (body := fun q : (Int32 × Int32 × ej_M) => f_X11_ounces_L41b q.1 q.2.1 q.2.2) (P := fun q : (Int32 × Int32 × ej_M) => ej_Z cX11_ounces 4 (some .int) RX11 "ounces" (e + 1) 41 [(0, .ref 41), (2, .int q.1), (3, .int q.2.1)] [] (ej_sh, q.2.2) res) (K := K) (fun s x hb hl hr => b_X11_ounces_L41b e hd  s.1 s.2.1 s.2.2 (K := fun x => (∀ s' : (Int32 × Int32 × ej_M), x = Sum.inl s' → ej_Z cX11_ounces 4 (some .int) RX11 "ounces" (e + 1) 41 [(0, .ref 41), (2, .int s'.1), (3, .int s'.2.1)] [] (ej_sh, s'.2.2) res) ∧ ∀ e, x = Sum.inr e → K e) hb ⟨hl, hr⟩ (fun q hq => hq.1 q rfl) (fun q hq => h0 q (hq.2 _ rfl))) oj_FU (v2, v3, m) x hf hK
def f_X11_ounces (v1 : Int32) (m : ej_M) : Option (Int32 × ej_M) :=
  (f_X11_in v1 (-1) ((m.1 41 4) - 1) m).bind fun q1 =>
  if q1.1 = 0 then
    some ((-1), q1.2)
  else
    (f_X11_findLess q1.2).bind fun q2 =>
    if q2.1 = 0 then
      some ((-2), q2.2)
    else
      if v1 < 0 then
        f_X11_ounces_L41 0 0 q2.2
      else
        (oj_ld 0 q2.2 58 v1).bind fun w3 =>
        some (w3, q2.2)
set_option maxHeartbeats 4000000 in
set_option maxRecDepth 100000 in
theorem b_X11_ounces (e : Nat) (hd : 2 ≤ e) (v1 : Int32) (m : ej_M) {x : (Int32 × ej_M)} {res : Option Value × ej_H} {K : (Int32 × ej_M) → Prop} (hf : f_X11_ounces v1 m = some x) (hK : K x) (h0 : ∀ q : (Int32 × ej_M), K q → res = (some (Value.int q.1), (ej_sh, q.2))) : ej_Z cX11_ounces 4 (some .int) RX11 "ounces" (e + 1) 0 [(0, .ref 41), (1, .int v1)] [] (ej_sh, m) res := by
  unfold f_X11_ounces at hf
  refine z_iload_n (pc := 0) (i := 1) (j := 1) dX11_ounces_0 rfl rfl ?_
  refine z_iconst (pc := 1) dX11_ounces_1 ki_n1 ?_
  refine z_aload_n (pc := 2) (i := 0) (j := 0) dX11_ounces_2 rfl rfl ?_
  refine z_ogetI (pc := 3) dX11_ounces_3 lf_RX11_108 sh_41 rfl rfl ?_
  refine z_iconst (pc := 6) dX11_ounces_6 ki_1 ?_
  refine z_isub (pc := 7) dX11_ounces_7 ?_
  obtain ⟨q1, hq1, hf⟩ := Option.bind_eq_some_iff.mp hf
  refine z_oSi (pc := 8) (as := [.int v1, .int (-1), .int ((m.1 41 4) - 1)]) (rest := []) dX11_ounces_8 lm_RX11_104 mf_X11_in ms_X11_in rfl rfl (Nat.le_of_ble_eq_true rfl) (c_X11_in e (by omega) v1 (-1) ((m.1 41 4) - 1) m hq1) ?_
  refine z_if_ne (pc := 11) (tgt := 16) dX11_ounces_11 (by decide) (fun hc => ?_) (fun hc => ?_)
  · rw [if_neg hc] at hf
    refine z_aload_n (pc := 16) (i := 0) (j := 0) dX11_ounces_16 rfl rfl ?_
    obtain ⟨q2, hq2, hf⟩ := Option.bind_eq_some_iff.mp hf
    refine z_oVi (pc := 17) (as := []) (rest := []) dX11_ounces_17 lm_RX11_285 mf_X11_findLess mi_X11_findLess mv_X11_findLess rc_41 rfl rfl (Nat.le_of_ble_eq_true rfl) (c_X11_findLess e (by omega) q1.2 hq2) ?_
    refine z_if_ne (pc := 20) (tgt := 26) dX11_ounces_20 (by decide) (fun hc => ?_) (fun hc => ?_)
    · rw [if_neg hc] at hf
      refine z_iload_n (pc := 26) (i := 1) (j := 1) dX11_ounces_26 rfl rfl ?_
      refine z_if_lt (pc := 27) (tgt := 37) dX11_ounces_27 (by decide) (fun hc => ?_) (fun hc => ?_)
      · rw [if_pos hc] at hf
        refine z_iconst (pc := 37) dX11_ounces_37 ki_0 ?_
        refine z_istore_n (pc := 38) (i := 2) (ls' := [(2, .int 0), (0, .ref 41), (1, .int v1)]) dX11_ounces_38 rfl (Nat.le_of_ble_eq_true rfl) rfl ?_
        refine z_iconst (pc := 39) dX11_ounces_39 ki_0 ?_
        refine z_istore_n (pc := 40) (i := 3) (ls' := [(3, .int 0), (2, .int 0), (0, .ref 41), (1, .int v1)]) dX11_ounces_40 rfl (Nat.le_of_ble_eq_true rfl) rfl ?_
        exact z_pick [2, 1, 0] rfl (b_X11_ounces_L41 e hd 0 0 q2.2 (K := K) hf hK  h0)
      · rw [if_neg hc] at hf
        refine z_aload_n (pc := 30) (i := 0) (j := 0) dX11_ounces_30 rfl rfl ?_
        refine z_ogetR (pc := 31) dX11_ounces_31 lf_RX11_60 sh_41 rfl rfl rfl ?_
        refine z_iload_n (pc := 34) (i := 1) (j := 1) dX11_ounces_34 rfl rfl ?_
        obtain ⟨w3, hw3, hf⟩ := Option.bind_eq_some_iff.mp hf
        refine z_oiald (pc := 35) dX11_ounces_35 hw3 ?_
        obtain rfl := Option.some.inj hf
        rw [h0 _ hK]
        exact z_iret dX11_ounces_36 rfl rfl
    · rw [if_pos hc] at hf
      refine z_bipush (pc := 23) dX11_ounces_23 kb_n2 ?_
      obtain rfl := Option.some.inj hf
      rw [h0 _ hK]
      exact z_iret dX11_ounces_25 rfl rfl
  · rw [if_pos hc] at hf
    refine z_iconst (pc := 14) dX11_ounces_14 ki_n1 ?_
    obtain rfl := Option.some.inj hf
    rw [h0 _ hK]
    exact z_iret dX11_ounces_15 rfl rfl
set_option maxHeartbeats 4000000 in
set_option maxRecDepth 100000 in
theorem c_X11_ounces (d : Nat) (hd : 3 ≤ d) (v1 : Int32) (m : ej_M) {q : (Int32 × ej_M)} (hf : f_X11_ounces v1 m = some q) : ej_Ct yX11_ounces cX11_ounces 4 (some .int) d [.ref 41, .int v1] (ej_sh, m) ((some (Value.int q.1), (ej_sh, q.2)) : Option Value × ej_H) := by
  obtain ⟨e, rfl⟩ : ∃ e, d = e + 1 := ⟨d - 1, by omega⟩
  exact z_met (by decide +kernel) (Nat.le_of_ble_eq_true rfl) (b_X11_ounces e (by omega) v1 m (K := fun z => ((some (Value.int q.1), (ej_sh, q.2)) : Option Value × ej_H) = (some (Value.int z.1), (ej_sh, z.2))) hf rfl (fun _ h => h))
def f_X8_findMakingUp_L28b (v1 : Int32) (v2 : Int32) (v3 : Int32) (m : ej_M) : Option ((Int32 × ej_M) ⊕ ((Int32 × ej_M) ⊕ (Int32 × ej_M))) :=
  if v1 < v3 then
    some (Sum.inr (Sum.inl ((v2 + 1), m)))
  else
    (f_X8_beginAnew m).bind fun q1 =>
    (f_X10_insert 16 v1 v3 8 q1.2).bind fun q2 =>
    (oj_pf q2.2 15 3 v3).bind fun m3 =>
    (f_X4_isLawful 16 (v1 + 1) m3).bind fun q4 =>
    if q4.1 = 0 then
      some (Sum.inl ((v3 + 1), q4.2))
    else
      some (Sum.inr (Sum.inr (1, q4.2)))
set_option maxHeartbeats 4000000 in
set_option maxRecDepth 100000 in
theorem b_X8_findMakingUp_L28b (e : Nat) (hd : 4 ≤ e) (v1 : Int32) (v2 : Int32) (v3 : Int32) (m : ej_M) {x : ((Int32 × ej_M) ⊕ ((Int32 × ej_M) ⊕ (Int32 × ej_M)))} {res : Option Value × ej_H} {K : ((Int32 × ej_M) ⊕ ((Int32 × ej_M) ⊕ (Int32 × ej_M))) → Prop} (hf : f_X8_findMakingUp_L28b v1 v2 v3 m = some x) (hK : K x) (h1 : ∀ q : (Int32 × ej_M), K (Sum.inl q) → ej_Z cX8_findMakingUp 4 (some .boolean) RX8 "findMakingUp" (e + 1) 28 [(0, .ref 15), (1, .int v1), (2, .int v2), (3, .int q.1)] [] (ej_sh, q.2) res) (h2 : ∀ q : (Int32 × ej_M), K (Sum.inr (Sum.inl q)) → ej_Z cX8_findMakingUp 4 (some .boolean) RX8 "findMakingUp" (e + 1) 10 [(0, .ref 15), (1, .int v1), (2, .int q.1)] [] (ej_sh, q.2) res) (h0 : ∀ q : (Int32 × ej_M), K (Sum.inr (Sum.inr q)) → res = (some (Value.int q.1), (ej_sh, q.2))) : ej_Z cX8_findMakingUp 4 (some .boolean) RX8 "findMakingUp" (e + 1) 28 [(0, .ref 15), (1, .int v1), (2, .int v2), (3, .int v3)] [] (ej_sh, m) res := by
  unfold f_X8_findMakingUp_L28b at hf
  refine z_iload_n (pc := 28) (i := 3) (j := 3) dX8_findMakingUp_28 rfl rfl ?_
  refine z_iload_n (pc := 29) (i := 1) (j := 1) dX8_findMakingUp_29 rfl rfl ?_
  refine z_icmp_gt (pc := 30) (tgt := 78) dX8_findMakingUp_30 (by decide) (fun hc => ?_) (fun hc => ?_)
  · rw [if_pos hc] at hf
    refine z_iinc (pc := 78) (j := 2) (ls' := [(2, .int (v2 + 1)), (0, .ref 15), (1, .int v1), (3, .int v3)]) dX8_findMakingUp_78 rfl ki_1 (Nat.le_of_ble_eq_true rfl) rfl ?_
    refine z_goto (pc := 81) (tgt := 10) dX8_findMakingUp_81 (by decide) ?_
    obtain rfl := Option.some.inj hf
    exact z_pick (ls' := [(0, .ref 15), (1, .int v1), (2, .int (v2 + 1))]) [1, 2, 0] rfl (h2 ((v2 + 1), m) hK)
  · rw [if_neg hc] at hf
    refine z_aload_n (pc := 33) (i := 0) (j := 0) dX8_findMakingUp_33 rfl rfl ?_
    obtain ⟨q1, hq1, hf⟩ := Option.bind_eq_some_iff.mp hf
    refine z_oVv (pc := 34) (as := []) (rest := []) dX8_findMakingUp_34 lm_RX8_35 mf_X8_beginAnew mi_X8_beginAnew mv_X8_beginAnew rc_15 rfl rfl (Nat.le_of_ble_eq_true rfl) (c_X8_beginAnew e (by omega) m hq1) ?_
    refine z_aload_n (pc := 37) (i := 0) (j := 0) dX8_findMakingUp_37 rfl rfl ?_
    refine z_ogetR (pc := 38) dX8_findMakingUp_38 lf_RX8_9 sh_15 rfl rfl rfl ?_
    refine z_iload_n (pc := 41) (i := 1) (j := 1) dX8_findMakingUp_41 rfl rfl ?_
    refine z_iload_n (pc := 42) (i := 3) (j := 3) dX8_findMakingUp_42 rfl rfl ?_
    refine z_bipush (pc := 43) dX8_findMakingUp_43 kb_8 ?_
    obtain ⟨q2, hq2, hf⟩ := Option.bind_eq_some_iff.mp hf
    refine z_oSv (pc := 45) (as := [.ref 16, .int v1, .int v3, .int 8]) (rest := []) dX8_findMakingUp_45 lm_RX8_80 mf_X10_insert ms_X10_insert rfl rfl (Nat.le_of_ble_eq_true rfl) (c_X10_insert e (by omega) 16 v1 v3 8 q1.2 hq2) ?_
    refine z_aload_n (pc := 48) (i := 0) (j := 0) dX8_findMakingUp_48 rfl rfl ?_
    refine z_iload_n (pc := 49) (i := 3) (j := 3) dX8_findMakingUp_49 rfl rfl ?_
    obtain ⟨m3, hm3, hf⟩ := Option.bind_eq_some_iff.mp hf
    refine z_oputI (pc := 50) dX8_findMakingUp_50 lf_RX8_84 sh_15 rfl hm3 ?_
    refine z_aload_n (pc := 53) (i := 0) (j := 0) dX8_findMakingUp_53 rfl rfl ?_
    refine z_ogetR (pc := 54) dX8_findMakingUp_54 lf_RX8_18 sh_15 rfl rfl rfl ?_
    refine z_aload_n (pc := 57) (i := 0) (j := 0) dX8_findMakingUp_57 rfl rfl ?_
    refine z_ogetR (pc := 58) dX8_findMakingUp_58 lf_RX8_9 sh_15 rfl rfl rfl ?_
    refine z_iload_n (pc := 61) (i := 1) (j := 1) dX8_findMakingUp_61 rfl rfl ?_
    refine z_iconst (pc := 62) dX8_findMakingUp_62 ki_1 ?_
    refine z_iadd (pc := 63) dX8_findMakingUp_63 ?_
    obtain ⟨q4, hq4, hf⟩ := Option.bind_eq_some_iff.mp hf
    refine z_oVi (pc := 64) (as := [.ref 16, .int (v1 + 1)]) (rest := []) dX8_findMakingUp_64 lm_RX8_42 mf_X4_isLawful mi_X4_isLawful mv_X4_isLawful rc_6 rfl rfl (Nat.le_of_ble_eq_true rfl) (c_X4_isLawful e (by omega) 16 (v1 + 1) m3 hq4) ?_
    refine z_if_eq (pc := 67) (tgt := 72) dX8_findMakingUp_67 (by decide) (fun hc => ?_) (fun hc => ?_)
    · rw [if_pos hc] at hf
      refine z_iinc (pc := 72) (j := 3) (ls' := [(3, .int (v3 + 1)), (0, .ref 15), (1, .int v1), (2, .int v2)]) dX8_findMakingUp_72 rfl ki_1 (Nat.le_of_ble_eq_true rfl) rfl ?_
      refine z_goto (pc := 75) (tgt := 28) dX8_findMakingUp_75 (by decide) ?_
      obtain rfl := Option.some.inj hf
      exact z_pick (ls' := [(0, .ref 15), (1, .int v1), (2, .int v2), (3, .int (v3 + 1))]) [1, 2, 3, 0] rfl (h1 ((v3 + 1), q4.2) hK)
    · rw [if_neg hc] at hf
      refine z_iconst (pc := 70) dX8_findMakingUp_70 ki_1 ?_
      obtain rfl := Option.some.inj hf
      rw [h0 _ hK]
      exact z_iret dX8_findMakingUp_71 rfl rfl
def f_X8_findMakingUp_L28 (v1 : Int32) (v2 : Int32) (v3 : Int32) (m : ej_M) : Option ((Int32 × ej_M) ⊕ (Int32 × ej_M)) := oj_loop (fun q : (Int32 × ej_M) => f_X8_findMakingUp_L28b v1 v2 q.1 q.2) oj_FU (v3, m)
set_option maxHeartbeats 4000000 in
set_option maxRecDepth 100000 in
theorem b_X8_findMakingUp_L28 (e : Nat) (hd : 4 ≤ e) (v1 : Int32) (v2 : Int32) (v3 : Int32) (m : ej_M) {x : ((Int32 × ej_M) ⊕ (Int32 × ej_M))} {res : Option Value × ej_H} {K : ((Int32 × ej_M) ⊕ (Int32 × ej_M)) → Prop} (hf : f_X8_findMakingUp_L28 v1 v2 v3 m = some x) (hK : K x) (h1 : ∀ q : (Int32 × ej_M), K (Sum.inl q) → ej_Z cX8_findMakingUp 4 (some .boolean) RX8 "findMakingUp" (e + 1) 10 [(0, .ref 15), (1, .int v1), (2, .int q.1)] [] (ej_sh, q.2) res) (h0 : ∀ q : (Int32 × ej_M), K (Sum.inr q) → res = (some (Value.int q.1), (ej_sh, q.2))) : ej_Z cX8_findMakingUp 4 (some .boolean) RX8 "findMakingUp" (e + 1) 28 [(0, .ref 15), (1, .int v1), (2, .int v2), (3, .int v3)] [] (ej_sh, m) res :=
  oj_loop_Z (body := fun q : (Int32 × ej_M) => f_X8_findMakingUp_L28b v1 v2 q.1 q.2) (P := fun q : (Int32 × ej_M) => ej_Z cX8_findMakingUp 4 (some .boolean) RX8 "findMakingUp" (e + 1) 28 [(0, .ref 15), (1, .int v1), (2, .int v2), (3, .int q.1)] [] (ej_sh, q.2) res) (K := K) (fun s x hb hl hr => b_X8_findMakingUp_L28b e hd v1 v2  s.1 s.2 (K := fun x => (∀ s' : (Int32 × ej_M), x = Sum.inl s' → ej_Z cX8_findMakingUp 4 (some .boolean) RX8 "findMakingUp" (e + 1) 28 [(0, .ref 15), (1, .int v1), (2, .int v2), (3, .int s'.1)] [] (ej_sh, s'.2) res) ∧ ∀ e, x = Sum.inr e → K e) hb ⟨hl, hr⟩ (fun q hq => hq.1 q rfl) (fun q hq => h1 q (hq.2 _ rfl)) (fun q hq => h0 q (hq.2 _ rfl))) oj_FU (v3, m) x hf hK
def f_X8_findMakingUp_L10b (v1 : Int32) (v2 : Int32) (m : ej_M) : Option ((Int32 × ej_M) ⊕ (Int32 × ej_M)) :=
  if 99 < v2 then
    some (Sum.inr (0, m))
  else
    (f_X4_weigh 8 v2 m).bind fun q1 =>
    f_X8_findMakingUp_L28 v1 v2 0 q1.2
set_option maxHeartbeats 4000000 in
set_option maxRecDepth 100000 in
theorem b_X8_findMakingUp_L10b (e : Nat) (hd : 4 ≤ e) (v1 : Int32) (v2 : Int32) (m : ej_M) {x : ((Int32 × ej_M) ⊕ (Int32 × ej_M))} {res : Option Value × ej_H} {K : ((Int32 × ej_M) ⊕ (Int32 × ej_M)) → Prop} (hf : f_X8_findMakingUp_L10b v1 v2 m = some x) (hK : K x) (h1 : ∀ q : (Int32 × ej_M), K (Sum.inl q) → ej_Z cX8_findMakingUp 4 (some .boolean) RX8 "findMakingUp" (e + 1) 10 [(0, .ref 15), (1, .int v1), (2, .int q.1)] [] (ej_sh, q.2) res) (h0 : ∀ q : (Int32 × ej_M), K (Sum.inr q) → res = (some (Value.int q.1), (ej_sh, q.2))) : ej_Z cX8_findMakingUp 4 (some .boolean) RX8 "findMakingUp" (e + 1) 10 [(0, .ref 15), (1, .int v1), (2, .int v2)] [] (ej_sh, m) res := by
  unfold f_X8_findMakingUp_L10b at hf
  refine z_iload_n (pc := 10) (i := 2) (j := 2) dX8_findMakingUp_10 rfl rfl ?_
  refine z_bipush (pc := 11) dX8_findMakingUp_11 kb_99 ?_
  refine z_icmp_gt (pc := 13) (tgt := 84) dX8_findMakingUp_13 (by decide) (fun hc => ?_) (fun hc => ?_)
  · rw [if_pos hc] at hf
    refine z_iconst (pc := 84) dX8_findMakingUp_84 ki_0 ?_
    obtain rfl := Option.some.inj hf
    rw [h0 _ hK]
    exact z_iret dX8_findMakingUp_85 rfl rfl
  · rw [if_neg hc] at hf
    refine z_aload_n (pc := 16) (i := 0) (j := 0) dX8_findMakingUp_16 rfl rfl ?_
    refine z_ogetR (pc := 17) dX8_findMakingUp_17 lf_RX8_18 sh_15 rfl rfl rfl ?_
    refine z_bipush (pc := 20) dX8_findMakingUp_20 kb_8 ?_
    refine z_iload_n (pc := 22) (i := 2) (j := 2) dX8_findMakingUp_22 rfl rfl ?_
    obtain ⟨q1, hq1, hf⟩ := Option.bind_eq_some_iff.mp hf
    refine z_oVv (pc := 23) (as := [.int 8, .int v2]) (rest := []) dX8_findMakingUp_23 lm_RX8_76 mf_X4_weigh mi_X4_weigh mv_X4_weigh rc_6 rfl rfl (Nat.le_of_ble_eq_true rfl) (c_X4_weigh e (by omega) 8 v2 m hq1) ?_
    refine z_iconst (pc := 26) dX8_findMakingUp_26 ki_0 ?_
    refine z_istore_n (pc := 27) (i := 3) (ls' := [(3, .int 0), (0, .ref 15), (1, .int v1), (2, .int v2)]) dX8_findMakingUp_27 rfl (Nat.le_of_ble_eq_true rfl) rfl ?_
    exact z_pick [1, 2, 3, 0] rfl (b_X8_findMakingUp_L28 e hd v1 v2 0 q1.2 (K := K) hf hK h1 h0)
def f_X8_findMakingUp_L10 (v1 : Int32) (v2 : Int32) (m : ej_M) : Option (Int32 × ej_M) := oj_loop (fun q : (Int32 × ej_M) => f_X8_findMakingUp_L10b v1 q.1 q.2) oj_FU (v2, m)
set_option maxHeartbeats 4000000 in
set_option maxRecDepth 100000 in
theorem b_X8_findMakingUp_L10 (e : Nat) (hd : 4 ≤ e) (v1 : Int32) (v2 : Int32) (m : ej_M) {x : (Int32 × ej_M)} {res : Option Value × ej_H} {K : (Int32 × ej_M) → Prop} (hf : f_X8_findMakingUp_L10 v1 v2 m = some x) (hK : K x) (h0 : ∀ q : (Int32 × ej_M), K q → res = (some (Value.int q.1), (ej_sh, q.2))) : ej_Z cX8_findMakingUp 4 (some .boolean) RX8 "findMakingUp" (e + 1) 10 [(0, .ref 15), (1, .int v1), (2, .int v2)] [] (ej_sh, m) res :=
  oj_loop_Z (body := fun q : (Int32 × ej_M) => f_X8_findMakingUp_L10b v1 q.1 q.2) (P := fun q : (Int32 × ej_M) => ej_Z cX8_findMakingUp 4 (some .boolean) RX8 "findMakingUp" (e + 1) 10 [(0, .ref 15), (1, .int v1), (2, .int q.1)] [] (ej_sh, q.2) res) (K := K) (fun s x hb hl hr => b_X8_findMakingUp_L10b e hd v1  s.1 s.2 (K := fun x => (∀ s' : (Int32 × ej_M), x = Sum.inl s' → ej_Z cX8_findMakingUp 4 (some .boolean) RX8 "findMakingUp" (e + 1) 10 [(0, .ref 15), (1, .int v1), (2, .int s'.1)] [] (ej_sh, s'.2) res) ∧ ∀ e, x = Sum.inr e → K e) hb ⟨hl, hr⟩ (fun q hq => hq.1 q rfl) (fun q hq => h0 q (hq.2 _ rfl))) oj_FU (v2, m) x hf hK
def f_X8_findMakingUp  (m : ej_M) : Option (Int32 × ej_M) :=
  f_X8_findMakingUp_L10 (m.1 6 4) 1 m
set_option maxHeartbeats 4000000 in
set_option maxRecDepth 100000 in
theorem b_X8_findMakingUp (e : Nat) (hd : 4 ≤ e)  (m : ej_M) {x : (Int32 × ej_M)} {res : Option Value × ej_H} {K : (Int32 × ej_M) → Prop} (hf : f_X8_findMakingUp  m = some x) (hK : K x) (h0 : ∀ q : (Int32 × ej_M), K q → res = (some (Value.int q.1), (ej_sh, q.2))) : ej_Z cX8_findMakingUp 4 (some .boolean) RX8 "findMakingUp" (e + 1) 0 [(0, .ref 15)] [] (ej_sh, m) res := by
  unfold f_X8_findMakingUp at hf
  refine z_aload_n (pc := 0) (i := 0) (j := 0) dX8_findMakingUp_0 rfl rfl ?_
  refine z_ogetR (pc := 1) dX8_findMakingUp_1 lf_RX8_18 sh_15 rfl rfl rfl ?_
  refine z_ogetI (pc := 4) dX8_findMakingUp_4 lf_RX8_27 sh_6 rfl rfl ?_
  refine z_istore_n (pc := 7) (i := 1) (ls' := [(1, .int (m.1 6 4)), (0, .ref 15)]) dX8_findMakingUp_7 rfl (Nat.le_of_ble_eq_true rfl) rfl ?_
  refine z_iconst (pc := 8) dX8_findMakingUp_8 ki_1 ?_
  refine z_istore_n (pc := 9) (i := 2) (ls' := [(2, .int 1), (1, .int (m.1 6 4)), (0, .ref 15)]) dX8_findMakingUp_9 rfl (Nat.le_of_ble_eq_true rfl) rfl ?_
  exact z_pick [2, 1, 0] rfl (b_X8_findMakingUp_L10 e hd (m.1 6 4) 1 m (K := K) hf hK  h0)
set_option maxHeartbeats 4000000 in
set_option maxRecDepth 100000 in
theorem c_X8_findMakingUp (d : Nat) (hd : 5 ≤ d)  (m : ej_M) {q : (Int32 × ej_M)} (hf : f_X8_findMakingUp  m = some q) : ej_Ct yX8_findMakingUp cX8_findMakingUp 4 (some .boolean) d [.ref 15] (ej_sh, m) ((some (Value.int q.1), (ej_sh, q.2)) : Option Value × ej_H) := by
  obtain ⟨e, rfl⟩ : ∃ e, d = e + 1 := ⟨d - 1, by omega⟩
  exact z_met (by decide +kernel) (Nat.le_of_ble_eq_true rfl) (b_X8_findMakingUp e (by omega)  m (K := fun z => ((some (Value.int q.1), (ej_sh, q.2)) : Option Value × ej_H) = (some (Value.int z.1), (ej_sh, z.2))) hf rfl (fun _ h => h))
def f_X10_makeUp_B11 (v1 : Int32) (m : ej_M) : Option (Int32 × ej_M) :=
  (f_X8_findMakingUp m).bind fun q1 =>
  if q1.1 = 0 then
    some ((-2), q1.2)
  else
    if v1 = 0 then
      (f_X4_weightOf 8 q1.2).bind fun q2 =>
      some (q2.1, q2.2)
    else
      some ((q1.2.1 15 3), q1.2)
set_option maxHeartbeats 4000000 in
set_option maxRecDepth 100000 in
theorem b_X10_makeUp_B11 (e : Nat) (hd : 5 ≤ e) (v1 : Int32) (m : ej_M) {x : (Int32 × ej_M)} {res : Option Value × ej_H} {K : (Int32 × ej_M) → Prop} (hf : f_X10_makeUp_B11 v1 m = some x) (hK : K x) (h0 : ∀ q : (Int32 × ej_M), K q → res = (some (Value.int q.1), (ej_sh, q.2))) : ej_Z cX10_makeUp 2 (some .int) RX10 "makeUp" (e + 1) 11 [(0, .ref 0), (1, .int v1)] [] (ej_sh, m) res := by
  unfold f_X10_makeUp_B11 at hf
  refine z_aload_n (pc := 11) (i := 0) (j := 0) dX10_makeUp_11 rfl rfl ?_
  refine z_ogetR (pc := 12) dX10_makeUp_12 lf_RX10_37 sh_0 rfl rfl rfl ?_
  obtain ⟨q1, hq1, hf⟩ := Option.bind_eq_some_iff.mp hf
  refine z_oVi (pc := 15) (as := []) (rest := []) dX10_makeUp_15 lm_RX10_207 mf_X8_findMakingUp mi_X8_findMakingUp mv_X8_findMakingUp rc_15 rfl rfl (Nat.le_of_ble_eq_true rfl) (c_X8_findMakingUp e (by omega) m hq1) ?_
  refine z_if_ne (pc := 18) (tgt := 24) dX10_makeUp_18 (by decide) (fun hc => ?_) (fun hc => ?_)
  · rw [if_neg hc] at hf
    refine z_iload_n (pc := 24) (i := 1) (j := 1) dX10_makeUp_24 rfl rfl ?_
    refine z_if_ne (pc := 25) (tgt := 40) dX10_makeUp_25 (by decide) (fun hc => ?_) (fun hc => ?_)
    · rw [if_neg hc] at hf
      refine z_aload_n (pc := 40) (i := 0) (j := 0) dX10_makeUp_40 rfl rfl ?_
      refine z_ogetR (pc := 41) dX10_makeUp_41 lf_RX10_37 sh_0 rfl rfl rfl ?_
      refine z_ogetI (pc := 44) dX10_makeUp_44 lf_RX10_210 sh_15 rfl rfl ?_
      obtain rfl := Option.some.inj hf
      rw [h0 _ hK]
      exact z_iret dX10_makeUp_47 rfl rfl
    · rw [if_pos hc] at hf
      refine z_aload_n (pc := 28) (i := 0) (j := 0) dX10_makeUp_28 rfl rfl ?_
      refine z_ogetR (pc := 29) dX10_makeUp_29 lf_RX10_21 sh_0 rfl rfl rfl ?_
      refine z_bipush (pc := 32) dX10_makeUp_32 kb_8 ?_
      obtain ⟨q2, hq2, hf⟩ := Option.bind_eq_some_iff.mp hf
      refine z_oVi (pc := 34) (as := [.int 8]) (rest := []) dX10_makeUp_34 lm_RX10_109 mf_X4_weightOf mi_X4_weightOf mv_X4_weightOf rc_6 rfl rfl (Nat.le_of_ble_eq_true rfl) (c_X4_weightOf e (by omega) 8 q1.2 hq2) ?_
      refine z_goto (pc := 37) (tgt := 47) dX10_makeUp_37 (by decide) ?_
      obtain rfl := Option.some.inj hf
      rw [h0 _ hK]
      exact z_iret dX10_makeUp_47 rfl rfl
  · rw [if_pos hc] at hf
    refine z_bipush (pc := 21) dX10_makeUp_21 kb_n2 ?_
    obtain rfl := Option.some.inj hf
    rw [h0 _ hK]
    exact z_iret dX10_makeUp_23 rfl rfl
def f_X10_makeUp (v1 : Int32) (m : ej_M) : Option (Int32 × ej_M) :=
  if v1 = 0 then
    f_X10_makeUp_B11 v1 m
  else
    if v1 = 1 then
      f_X10_makeUp_B11 v1 m
    else
      some ((-1), m)
set_option maxHeartbeats 4000000 in
set_option maxRecDepth 100000 in
theorem b_X10_makeUp (e : Nat) (hd : 5 ≤ e) (v1 : Int32) (m : ej_M) {x : (Int32 × ej_M)} {res : Option Value × ej_H} {K : (Int32 × ej_M) → Prop} (hf : f_X10_makeUp v1 m = some x) (hK : K x) (h0 : ∀ q : (Int32 × ej_M), K q → res = (some (Value.int q.1), (ej_sh, q.2))) : ej_Z cX10_makeUp 2 (some .int) RX10 "makeUp" (e + 1) 0 [(0, .ref 0), (1, .int v1)] [] (ej_sh, m) res := by
  unfold f_X10_makeUp at hf
  refine z_iload_n (pc := 0) (i := 1) (j := 1) dX10_makeUp_0 rfl rfl ?_
  refine z_if_eq (pc := 1) (tgt := 11) dX10_makeUp_1 (by decide) (fun hc => ?_) (fun hc => ?_)
  · rw [if_pos hc] at hf
    exact z_pick [0, 1] rfl (b_X10_makeUp_B11 e hd v1 m (K := K) hf hK  h0)
  · rw [if_neg hc] at hf
    refine z_iload_n (pc := 4) (i := 1) (j := 1) dX10_makeUp_4 rfl rfl ?_
    refine z_iconst (pc := 5) dX10_makeUp_5 ki_1 ?_
    refine z_icmp_eq (pc := 6) (tgt := 11) dX10_makeUp_6 (by decide) (fun hc => ?_) (fun hc => ?_)
    · rw [if_pos hc] at hf
      exact z_pick [0, 1] rfl (b_X10_makeUp_B11 e hd v1 m (K := K) hf hK  h0)
    · rw [if_neg hc] at hf
      refine z_iconst (pc := 9) dX10_makeUp_9 ki_n1 ?_
      obtain rfl := Option.some.inj hf
      rw [h0 _ hK]
      exact z_iret dX10_makeUp_10 rfl rfl
set_option maxHeartbeats 4000000 in
set_option maxRecDepth 100000 in
theorem c_X10_makeUp (d : Nat) (hd : 6 ≤ d) (v1 : Int32) (m : ej_M) {q : (Int32 × ej_M)} (hf : f_X10_makeUp v1 m = some q) : ej_Ct yX10_makeUp cX10_makeUp 2 (some .int) d [.ref 0, .int v1] (ej_sh, m) ((some (Value.int q.1), (ej_sh, q.2)) : Option Value × ej_H) := by
  obtain ⟨e, rfl⟩ : ∃ e, d = e + 1 := ⟨d - 1, by omega⟩
  exact z_met (by decide +kernel) (Nat.le_of_ble_eq_true rfl) (b_X10_makeUp e (by omega) v1 m (K := fun z => ((some (Value.int q.1), (ej_sh, q.2)) : Option Value × ej_H) = (some (Value.int z.1), (ej_sh, z.2))) hf rfl (fun _ h => h))
def f_X11_isMadeUp_B65 (v2 : Int32) (v3 : Int32) (s0 : Int32) (s1 : Int32) (m : ej_M) : Option ((Int32 × ej_M) ⊕ (Int32 × ej_M)) :=
  (oj_st 0 m 56 s1 s0).bind fun m1 =>
  some (Sum.inl ((v3 + 1), m1))
set_option maxHeartbeats 4000000 in
set_option maxRecDepth 100000 in
theorem b_X11_isMadeUp_B65 (e : Nat) (hd : 4 ≤ e) (v2 : Int32) (v3 : Int32) (s0 : Int32) (s1 : Int32) (m : ej_M) {x : ((Int32 × ej_M) ⊕ (Int32 × ej_M))} {res : Option Value × ej_H} {K : ((Int32 × ej_M) ⊕ (Int32 × ej_M)) → Prop} (hf : f_X11_isMadeUp_B65 v2 v3 s0 s1 m = some x) (hK : K x) (h1 : ∀ q : (Int32 × ej_M), K (Sum.inl q) → ej_Z cX11_isMadeUp 4 (some .boolean) RX11 "isMadeUp" (e + 1) 20 [(0, .ref 41), (2, .int v2), (3, .int q.1)] [] (ej_sh, q.2) res) (h0 : ∀ q : (Int32 × ej_M), K (Sum.inr q) → res = (some (Value.int q.1), (ej_sh, q.2))) : ej_Z cX11_isMadeUp 4 (some .boolean) RX11 "isMadeUp" (e + 1) 65 [(0, .ref 41), (2, .int v2), (3, .int v3)] [.int s0, .int s1, .ref 56] (ej_sh, m) res := by
  unfold f_X11_isMadeUp_B65 at hf
  obtain ⟨m1, hm1, hf⟩ := Option.bind_eq_some_iff.mp hf
  refine z_oiast (pc := 65) dX11_isMadeUp_65 hm1 ?_
  refine z_iinc (pc := 66) (j := 2) (ls' := [(3, .int (v3 + 1)), (0, .ref 41), (2, .int v2)]) dX11_isMadeUp_66 rfl ki_1 (Nat.le_of_ble_eq_true rfl) rfl ?_
  refine z_goto (pc := 69) (tgt := 20) dX11_isMadeUp_69 (by decide) ?_
  obtain rfl := Option.some.inj hf
  exact z_pick (ls' := [(0, .ref 41), (2, .int v2), (3, .int (v3 + 1))]) [1, 2, 0] rfl (h1 ((v3 + 1), m1) hK)
def f_X11_isMadeUp_L20b (v2 : Int32) (v3 : Int32) (m : ej_M) : Option ((Int32 × ej_M) ⊕ (Int32 × ej_M)) :=
  if (m.1 41 29) ≤ v3 then
    (f_X11_isLawful m).bind fun q1 =>
    (oj_rz q1.1 q1.2).map fun y => (Sum.inr y)
  else
    if v2 ≤ v3 then
      if v3 = v2 then
        f_X11_isMadeUp_B65 v2 v3 8 v3 m
      else
        (oj_ld 0 m 43 (v3 - 1)).bind fun w2 =>
        f_X11_isMadeUp_B65 v2 v3 w2 v3 m
    else
      (oj_ld 0 m 43 v3).bind fun w3 =>
      f_X11_isMadeUp_B65 v2 v3 w3 v3 m
set_option maxHeartbeats 4000000 in
set_option maxRecDepth 100000 in
theorem b_X11_isMadeUp_L20b (e : Nat) (hd : 4 ≤ e) (v2 : Int32) (v3 : Int32) (m : ej_M) {x : ((Int32 × ej_M) ⊕ (Int32 × ej_M))} {res : Option Value × ej_H} {K : ((Int32 × ej_M) ⊕ (Int32 × ej_M)) → Prop} (hf : f_X11_isMadeUp_L20b v2 v3 m = some x) (hK : K x) (h1 : ∀ q : (Int32 × ej_M), K (Sum.inl q) → ej_Z cX11_isMadeUp 4 (some .boolean) RX11 "isMadeUp" (e + 1) 20 [(0, .ref 41), (2, .int v2), (3, .int q.1)] [] (ej_sh, q.2) res) (h0 : ∀ q : (Int32 × ej_M), K (Sum.inr q) → res = (some (Value.int q.1), (ej_sh, q.2))) : ej_Z cX11_isMadeUp 4 (some .boolean) RX11 "isMadeUp" (e + 1) 20 [(0, .ref 41), (2, .int v2), (3, .int v3)] [] (ej_sh, m) res := by
  unfold f_X11_isMadeUp_L20b at hf
  refine z_iload_n (pc := 20) (i := 3) (j := 2) dX11_isMadeUp_20 rfl rfl ?_
  refine z_aload_n (pc := 21) (i := 0) (j := 0) dX11_isMadeUp_21 rfl rfl ?_
  refine z_ogetI (pc := 22) dX11_isMadeUp_22 lf_RX11_212 sh_41 rfl rfl ?_
  refine z_icmp_ge (pc := 25) (tgt := 72) dX11_isMadeUp_25 (by decide) (fun hc => ?_) (fun hc => ?_)
  · rw [if_pos hc] at hf
    refine z_aload_n (pc := 72) (i := 0) (j := 0) dX11_isMadeUp_72 rfl rfl ?_
    obtain ⟨q1, hq1, hf⟩ := Option.bind_eq_some_iff.mp hf
    refine z_oVi (pc := 73) (as := []) (rest := []) dX11_isMadeUp_73 lm_RX11_230 mf_X11_isLawful mi_X11_isLawful mv_X11_isLawful rc_41 rfl rfl (Nat.le_of_ble_eq_true rfl) (c_X11_isLawful e (by omega) m hq1) ?_
    obtain ⟨y, hy, hxy⟩ := Option.map_eq_some_iff.mp hf
    subst hxy
    rw [h0 _ hK]
    exact z_oretz dX11_isMadeUp_76 rfl hy
  · rw [if_neg hc] at hf
    refine z_aload_n (pc := 28) (i := 0) (j := 0) dX11_isMadeUp_28 rfl rfl ?_
    refine z_ogetR (pc := 29) dX11_isMadeUp_29 lf_RX11_54 sh_41 rfl rfl rfl ?_
    refine z_iload_n (pc := 32) (i := 3) (j := 2) dX11_isMadeUp_32 rfl rfl ?_
    refine z_iload_n (pc := 33) (i := 3) (j := 2) dX11_isMadeUp_33 rfl rfl ?_
    refine z_iload_n (pc := 34) (i := 2) (j := 1) dX11_isMadeUp_34 rfl rfl ?_
    refine z_icmp_ge (pc := 35) (tgt := 47) dX11_isMadeUp_35 (by decide) (fun hc => ?_) (fun hc => ?_)
    · rw [if_pos hc] at hf
      refine z_iload_n (pc := 47) (i := 3) (j := 2) dX11_isMadeUp_47 rfl rfl ?_
      refine z_iload_n (pc := 48) (i := 2) (j := 1) dX11_isMadeUp_48 rfl rfl ?_
      refine z_icmp_ne (pc := 49) (tgt := 57) dX11_isMadeUp_49 (by decide) (fun hc => ?_) (fun hc => ?_)
      · rw [if_neg hc] at hf
        refine z_aload_n (pc := 57) (i := 0) (j := 0) dX11_isMadeUp_57 rfl rfl ?_
        refine z_ogetR (pc := 58) dX11_isMadeUp_58 lf_RX11_13 sh_41 rfl rfl rfl ?_
        refine z_iload_n (pc := 61) (i := 3) (j := 2) dX11_isMadeUp_61 rfl rfl ?_
        refine z_iconst (pc := 62) dX11_isMadeUp_62 ki_1 ?_
        refine z_isub (pc := 63) dX11_isMadeUp_63 ?_
        obtain ⟨w2, hw2, hf⟩ := Option.bind_eq_some_iff.mp hf
        refine z_oiald (pc := 64) dX11_isMadeUp_64 hw2 ?_
        exact z_pick [0, 1, 2] rfl (b_X11_isMadeUp_B65 e hd v2 v3 w2 v3 m (K := K) hf hK h1 h0)
      · rw [if_pos hc] at hf
        refine z_bipush (pc := 52) dX11_isMadeUp_52 kb_8 ?_
        refine z_goto (pc := 54) (tgt := 65) dX11_isMadeUp_54 (by decide) ?_
        exact z_pick [0, 1, 2] rfl (b_X11_isMadeUp_B65 e hd v2 v3 8 v3 m (K := K) hf hK h1 h0)
    · rw [if_neg hc] at hf
      refine z_aload_n (pc := 38) (i := 0) (j := 0) dX11_isMadeUp_38 rfl rfl ?_
      refine z_ogetR (pc := 39) dX11_isMadeUp_39 lf_RX11_13 sh_41 rfl rfl rfl ?_
      refine z_iload_n (pc := 42) (i := 3) (j := 2) dX11_isMadeUp_42 rfl rfl ?_
      obtain ⟨w3, hw3, hf⟩ := Option.bind_eq_some_iff.mp hf
      refine z_oiald (pc := 43) dX11_isMadeUp_43 hw3 ?_
      refine z_goto (pc := 44) (tgt := 65) dX11_isMadeUp_44 (by decide) ?_
      exact z_pick [0, 1, 2] rfl (b_X11_isMadeUp_B65 e hd v2 v3 w3 v3 m (K := K) hf hK h1 h0)
def f_X11_isMadeUp_L20 (v2 : Int32) (v3 : Int32) (m : ej_M) : Option (Int32 × ej_M) := oj_loop (fun q : (Int32 × ej_M) => f_X11_isMadeUp_L20b v2 q.1 q.2) oj_FU (v3, m)
set_option maxHeartbeats 4000000 in
set_option maxRecDepth 100000 in
theorem b_X11_isMadeUp_L20 (e : Nat) (hd : 4 ≤ e) (v2 : Int32) (v3 : Int32) (m : ej_M) {x : (Int32 × ej_M)} {res : Option Value × ej_H} {K : (Int32 × ej_M) → Prop} (hf : f_X11_isMadeUp_L20 v2 v3 m = some x) (hK : K x) (h0 : ∀ q : (Int32 × ej_M), K q → res = (some (Value.int q.1), (ej_sh, q.2))) : ej_Z cX11_isMadeUp 4 (some .boolean) RX11 "isMadeUp" (e + 1) 20 [(0, .ref 41), (2, .int v2), (3, .int v3)] [] (ej_sh, m) res :=
  oj_loop_Z (body := fun q : (Int32 × ej_M) => f_X11_isMadeUp_L20b v2 q.1 q.2) (P := fun q : (Int32 × ej_M) => ej_Z cX11_isMadeUp 4 (some .boolean) RX11 "isMadeUp" (e + 1) 20 [(0, .ref 41), (2, .int v2), (3, .int q.1)] [] (ej_sh, q.2) res) (K := K) (fun s x hb hl hr => b_X11_isMadeUp_L20b e hd v2  s.1 s.2 (K := fun x => (∀ s' : (Int32 × ej_M), x = Sum.inl s' → ej_Z cX11_isMadeUp 4 (some .boolean) RX11 "isMadeUp" (e + 1) 20 [(0, .ref 41), (2, .int v2), (3, .int s'.1)] [] (ej_sh, s'.2) res) ∧ ∀ e, x = Sum.inr e → K e) hb ⟨hl, hr⟩ (fun q hq => hq.1 q rfl) (fun q hq => h0 q (hq.2 _ rfl))) oj_FU (v3, m) x hf hK
def f_X11_isMadeUp (v1 : Int32) (v2 : Int32) (m : ej_M) : Option (Int32 × ej_M) :=
  (oj_st 0 m 42 8 v1).bind fun m1 =>
  (oj_pf m1 41 29 ((m1.1 41 4) + 1)).bind fun m2 =>
  f_X11_isMadeUp_L20 v2 0 m2
set_option maxHeartbeats 4000000 in
set_option maxRecDepth 100000 in
theorem b_X11_isMadeUp (e : Nat) (hd : 4 ≤ e) (v1 : Int32) (v2 : Int32) (m : ej_M) {x : (Int32 × ej_M)} {res : Option Value × ej_H} {K : (Int32 × ej_M) → Prop} (hf : f_X11_isMadeUp v1 v2 m = some x) (hK : K x) (h0 : ∀ q : (Int32 × ej_M), K q → res = (some (Value.int q.1), (ej_sh, q.2))) : ej_Z cX11_isMadeUp 4 (some .boolean) RX11 "isMadeUp" (e + 1) 0 [(0, .ref 41), (1, .int v1), (2, .int v2)] [] (ej_sh, m) res := by
  unfold f_X11_isMadeUp at hf
  refine z_aload_n (pc := 0) (i := 0) (j := 0) dX11_isMadeUp_0 rfl rfl ?_
  refine z_ogetR (pc := 1) dX11_isMadeUp_1 lf_RX11_7 sh_41 rfl rfl rfl ?_
  refine z_bipush (pc := 4) dX11_isMadeUp_4 kb_8 ?_
  refine z_iload_n (pc := 6) (i := 1) (j := 1) dX11_isMadeUp_6 rfl rfl ?_
  obtain ⟨m1, hm1, hf⟩ := Option.bind_eq_some_iff.mp hf
  refine z_oiast (pc := 7) dX11_isMadeUp_7 hm1 ?_
  refine z_aload_n (pc := 8) (i := 0) (j := 0) dX11_isMadeUp_8 rfl rfl ?_
  refine z_aload_n (pc := 9) (i := 0) (j := 0) dX11_isMadeUp_9 rfl rfl ?_
  refine z_ogetI (pc := 10) dX11_isMadeUp_10 lf_RX11_108 sh_41 rfl rfl ?_
  refine z_iconst (pc := 13) dX11_isMadeUp_13 ki_1 ?_
  refine z_iadd (pc := 14) dX11_isMadeUp_14 ?_
  obtain ⟨m2, hm2, hf⟩ := Option.bind_eq_some_iff.mp hf
  refine z_oputI (pc := 15) dX11_isMadeUp_15 lf_RX11_212 sh_41 rfl hm2 ?_
  refine z_iconst (pc := 18) dX11_isMadeUp_18 ki_0 ?_
  refine z_istore_n (pc := 19) (i := 3) (ls' := [(3, .int 0), (0, .ref 41), (1, .int v1), (2, .int v2)]) dX11_isMadeUp_19 rfl (Nat.le_of_ble_eq_true rfl) rfl ?_
  exact z_pick [1, 3, 0] rfl (b_X11_isMadeUp_L20 e hd v2 0 m2 (K := K) hf hK  h0)
set_option maxHeartbeats 4000000 in
set_option maxRecDepth 100000 in
theorem c_X11_isMadeUp (d : Nat) (hd : 5 ≤ d) (v1 : Int32) (v2 : Int32) (m : ej_M) {q : (Int32 × ej_M)} (hf : f_X11_isMadeUp v1 v2 m = some q) : ej_Ct yX11_isMadeUp cX11_isMadeUp 4 (some .boolean) d [.ref 41, .int v1, .int v2] (ej_sh, m) ((some (Value.int q.1), (ej_sh, q.2)) : Option Value × ej_H) := by
  obtain ⟨e, rfl⟩ : ∃ e, d = e + 1 := ⟨d - 1, by omega⟩
  exact z_met (by decide +kernel) (Nat.le_of_ble_eq_true rfl) (b_X11_isMadeUp e (by omega) v1 v2 m (K := fun z => ((some (Value.int q.1), (ej_sh, q.2)) : Option Value × ej_H) = (some (Value.int z.1), (ej_sh, z.2))) hf rfl (fun _ h => h))
