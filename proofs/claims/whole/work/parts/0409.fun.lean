def f_X5_most_B34 (v1 : Int32) (v2 : Int32) (s0 : Int32) (s1 : Int32) (m : ej_M) : Option ((Int32 × ej_M) ⊕ (Int32 × ej_M)) :=
  (f_X10_lay 26 s1 s0 m).bind fun q1 =>
  some (Sum.inl ((v2 + 1), q1.2))
set_option maxHeartbeats 4000000 in
set_option maxRecDepth 100000 in
theorem b_X5_most_B34 (e : Nat) (hd : 5 ≤ e) (v1 : Int32) (v2 : Int32) (s0 : Int32) (s1 : Int32) (m : ej_M) {x : ((Int32 × ej_M) ⊕ (Int32 × ej_M))} {res : Option Value × ej_H} {K : ((Int32 × ej_M) ⊕ (Int32 × ej_M)) → Prop} (hf : f_X5_most_B34 v1 v2 s0 s1 m = some x) (hK : K x) (h1 : ∀ q : (Int32 × ej_M), K (Sum.inl q) → ej_Z cX5_most 3 (some .int) RX5 "most" (e + 1) 7 [(0, .ref 25), (1, .int v1), (2, .int q.1)] [] (ej_sh, q.2) res) (h0 : ∀ q : (Int32 × ej_M), K (Sum.inr q) → res = (some (Value.int q.1), (ej_sh, q.2))) : ej_Z cX5_most 3 (some .int) RX5 "most" (e + 1) 34 [(0, .ref 25), (1, .int v1), (2, .int v2)] [.int s0, .int s1, .ref 26] (ej_sh, m) res := by
  unfold f_X5_most_B34 at hf
  obtain ⟨q1, hq1, hf⟩ := Option.bind_eq_some_iff.mp hf
  refine z_oSv (pc := 34) (as := [.ref 26, .int s1, .int s0]) (rest := []) dX5_most_34 lm_RX5_40 mf_X10_lay ms_X10_lay rfl rfl (Nat.le_of_ble_eq_true rfl) (c_X10_lay e (by omega) 26 s1 s0 m hq1) ?_
  refine z_iinc (pc := 37) (j := 2) (ls' := [(2, .int (v2 + 1)), (0, .ref 25), (1, .int v1)]) dX5_most_37 rfl ki_1 (Nat.le_of_ble_eq_true rfl) rfl ?_
  refine z_goto (pc := 40) (tgt := 7) dX5_most_40 (by decide) ?_
  obtain rfl := Option.some.inj hf
  exact z_pick (ls' := [(0, .ref 25), (1, .int v1), (2, .int (v2 + 1))]) [1, 2, 0] rfl (h1 ((v2 + 1), q1.2) hK)
def f_X5_most_L7b (v1 : Int32) (v2 : Int32) (m : ej_M) : Option ((Int32 × ej_M) ⊕ (Int32 × ej_M)) :=
  if v1 ≤ v2 then
    (f_X5_mostFrom v1 m).bind fun q1 =>
    some (Sum.inr (q1.1, q1.2))
  else
    (f_X5_isLawful v2 m).bind fun q2 =>
    if q2.1 = 0 then
      f_X5_most_B34 v1 v2 (-1) v2 q2.2
    else
      (f_X5_mostFrom v2 q2.2).bind fun q3 =>
      f_X5_most_B34 v1 v2 q3.1 v2 q3.2
set_option maxHeartbeats 4000000 in
set_option maxRecDepth 100000 in
theorem b_X5_most_L7b (e : Nat) (hd : 5 ≤ e) (v1 : Int32) (v2 : Int32) (m : ej_M) {x : ((Int32 × ej_M) ⊕ (Int32 × ej_M))} {res : Option Value × ej_H} {K : ((Int32 × ej_M) ⊕ (Int32 × ej_M)) → Prop} (hf : f_X5_most_L7b v1 v2 m = some x) (hK : K x) (h1 : ∀ q : (Int32 × ej_M), K (Sum.inl q) → ej_Z cX5_most 3 (some .int) RX5 "most" (e + 1) 7 [(0, .ref 25), (1, .int v1), (2, .int q.1)] [] (ej_sh, q.2) res) (h0 : ∀ q : (Int32 × ej_M), K (Sum.inr q) → res = (some (Value.int q.1), (ej_sh, q.2))) : ej_Z cX5_most 3 (some .int) RX5 "most" (e + 1) 7 [(0, .ref 25), (1, .int v1), (2, .int v2)] [] (ej_sh, m) res := by
  unfold f_X5_most_L7b at hf
  refine z_iload_n (pc := 7) (i := 2) (j := 2) dX5_most_7 rfl rfl ?_
  refine z_iload_n (pc := 8) (i := 1) (j := 1) dX5_most_8 rfl rfl ?_
  refine z_icmp_ge (pc := 9) (tgt := 43) dX5_most_9 (by decide) (fun hc => ?_) (fun hc => ?_)
  · rw [if_pos hc] at hf
    refine z_aload_n (pc := 43) (i := 0) (j := 0) dX5_most_43 rfl rfl ?_
    refine z_iload_n (pc := 44) (i := 1) (j := 1) dX5_most_44 rfl rfl ?_
    obtain ⟨q1, hq1, hf⟩ := Option.bind_eq_some_iff.mp hf
    refine z_oVi (pc := 45) (as := [.int v1]) (rest := []) dX5_most_45 lm_RX5_36 mf_X5_mostFrom mi_X5_mostFrom mv_X5_mostFrom rc_25 rfl rfl (Nat.le_of_ble_eq_true rfl) (c_X5_mostFrom e (by omega) v1 m hq1) ?_
    obtain rfl := Option.some.inj hf
    rw [h0 _ hK]
    exact z_iret dX5_most_48 rfl rfl
  · rw [if_neg hc] at hf
    refine z_aload_n (pc := 12) (i := 0) (j := 0) dX5_most_12 rfl rfl ?_
    refine z_ogetR (pc := 13) dX5_most_13 lf_RX5_9 sh_25 rfl rfl rfl ?_
    refine z_iload_n (pc := 16) (i := 2) (j := 2) dX5_most_16 rfl rfl ?_
    refine z_aload_n (pc := 17) (i := 0) (j := 0) dX5_most_17 rfl rfl ?_
    refine z_iload_n (pc := 18) (i := 2) (j := 2) dX5_most_18 rfl rfl ?_
    obtain ⟨q2, hq2, hf⟩ := Option.bind_eq_some_iff.mp hf
    refine z_oVi (pc := 19) (as := [.int v2]) (rest := [.int v2, .ref 26]) dX5_most_19 lm_RX5_32 mf_X5_isLawful mi_X5_isLawful mv_X5_isLawful rc_25 rfl rfl (Nat.le_of_ble_eq_true rfl) (c_X5_isLawful e (by omega) v2 m hq2) ?_
    refine z_if_eq (pc := 22) (tgt := 33) dX5_most_22 (by decide) (fun hc => ?_) (fun hc => ?_)
    · rw [if_pos hc] at hf
      refine z_iconst (pc := 33) dX5_most_33 ki_n1 ?_
      exact z_pick [0, 1, 2] rfl (b_X5_most_B34 e hd v1 v2 (-1) v2 q2.2 (K := K) hf hK h1 h0)
    · rw [if_neg hc] at hf
      refine z_aload_n (pc := 25) (i := 0) (j := 0) dX5_most_25 rfl rfl ?_
      refine z_iload_n (pc := 26) (i := 2) (j := 2) dX5_most_26 rfl rfl ?_
      obtain ⟨q3, hq3, hf⟩ := Option.bind_eq_some_iff.mp hf
      refine z_oVi (pc := 27) (as := [.int v2]) (rest := [.int v2, .ref 26]) dX5_most_27 lm_RX5_36 mf_X5_mostFrom mi_X5_mostFrom mv_X5_mostFrom rc_25 rfl rfl (Nat.le_of_ble_eq_true rfl) (c_X5_mostFrom e (by omega) v2 q2.2 hq3) ?_
      refine z_goto (pc := 30) (tgt := 34) dX5_most_30 (by decide) ?_
      exact z_pick [0, 1, 2] rfl (b_X5_most_B34 e hd v1 v2 q3.1 v2 q3.2 (K := K) hf hK h1 h0)
def f_X5_most_L7 (v1 : Int32) (v2 : Int32) (m : ej_M) : Option (Int32 × ej_M) := oj_loop (fun q : (Int32 × ej_M) => f_X5_most_L7b v1 q.1 q.2) oj_FU (v2, m)
set_option maxHeartbeats 4000000 in
set_option maxRecDepth 100000 in
theorem b_X5_most_L7 (e : Nat) (hd : 5 ≤ e) (v1 : Int32) (v2 : Int32) (m : ej_M) {x : (Int32 × ej_M)} {res : Option Value × ej_H} {K : (Int32 × ej_M) → Prop} (hf : f_X5_most_L7 v1 v2 m = some x) (hK : K x) (h0 : ∀ q : (Int32 × ej_M), K q → res = (some (Value.int q.1), (ej_sh, q.2))) : ej_Z cX5_most 3 (some .int) RX5 "most" (e + 1) 7 [(0, .ref 25), (1, .int v1), (2, .int v2)] [] (ej_sh, m) res :=
  oj_loop_Z (body := fun q : (Int32 × ej_M) => f_X5_most_L7b v1 q.1 q.2) (P := fun q : (Int32 × ej_M) => ej_Z cX5_most 3 (some .int) RX5 "most" (e + 1) 7 [(0, .ref 25), (1, .int v1), (2, .int q.1)] [] (ej_sh, q.2) res) (K := K) (fun s x hb hl hr => b_X5_most_L7b e hd v1  s.1 s.2 (K := fun x => (∀ s' : (Int32 × ej_M), x = Sum.inl s' → ej_Z cX5_most 3 (some .int) RX5 "most" (e + 1) 7 [(0, .ref 25), (1, .int v1), (2, .int s'.1)] [] (ej_sh, s'.2) res) ∧ ∀ e, x = Sum.inr e → K e) hb ⟨hl, hr⟩ (fun q hq => hq.1 q rfl) (fun q hq => h0 q (hq.2 _ rfl))) oj_FU (v2, m) x hf hK
def f_X5_most  (m : ej_M) : Option (Int32 × ej_M) :=
  (f_X5_all m).bind fun q1 =>
  f_X5_most_L7 q1.1 0 q1.2
set_option maxHeartbeats 4000000 in
set_option maxRecDepth 100000 in
theorem b_X5_most (e : Nat) (hd : 5 ≤ e)  (m : ej_M) {x : (Int32 × ej_M)} {res : Option Value × ej_H} {K : (Int32 × ej_M) → Prop} (hf : f_X5_most  m = some x) (hK : K x) (h0 : ∀ q : (Int32 × ej_M), K q → res = (some (Value.int q.1), (ej_sh, q.2))) : ej_Z cX5_most 3 (some .int) RX5 "most" (e + 1) 0 [(0, .ref 25)] [] (ej_sh, m) res := by
  unfold f_X5_most at hf
  refine z_aload_n (pc := 0) (i := 0) (j := 0) dX5_most_0 rfl rfl ?_
  obtain ⟨q1, hq1, hf⟩ := Option.bind_eq_some_iff.mp hf
  refine z_oVi (pc := 1) (as := []) (rest := []) dX5_most_1 lm_RX5_28 mf_X5_all mi_X5_all mv_X5_all rc_25 rfl rfl (Nat.le_of_ble_eq_true rfl) (c_X5_all e (by omega) m hq1) ?_
  refine z_istore_n (pc := 4) (i := 1) (ls' := [(1, .int q1.1), (0, .ref 25)]) dX5_most_4 rfl (Nat.le_of_ble_eq_true rfl) rfl ?_
  refine z_iconst (pc := 5) dX5_most_5 ki_0 ?_
  refine z_istore_n (pc := 6) (i := 2) (ls' := [(2, .int 0), (1, .int q1.1), (0, .ref 25)]) dX5_most_6 rfl (Nat.le_of_ble_eq_true rfl) rfl ?_
  exact z_pick [2, 1, 0] rfl (b_X5_most_L7 e hd q1.1 0 q1.2 (K := K) hf hK  h0)
set_option maxHeartbeats 4000000 in
set_option maxRecDepth 100000 in
theorem c_X5_most (d : Nat) (hd : 6 ≤ d)  (m : ej_M) {q : (Int32 × ej_M)} (hf : f_X5_most  m = some q) : ej_Ct yX5_most cX5_most 3 (some .int) d [.ref 25] (ej_sh, m) ((some (Value.int q.1), (ej_sh, q.2)) : Option Value × ej_H) := by
  obtain ⟨e, rfl⟩ : ∃ e, d = e + 1 := ⟨d - 1, by omega⟩
  exact z_met (by decide +kernel) (Nat.le_of_ble_eq_true rfl) (b_X5_most e (by omega)  m (K := fun z => ((some (Value.int q.1), (ej_sh, q.2)) : Option Value × ej_H) = (some (Value.int z.1), (ej_sh, z.2))) hf rfl (fun _ h => h))
def f_X5_firstSale_L8b (v1 : Int32) (v2 : Int32) (v3 : Int32) (m : ej_M) : Option ((Int32 × ej_M) ⊕ (Int32 × ej_M)) :=
  if 8 ≤ v3 then
    some (Sum.inr ((-2), m))
  else
    (f_X4_placeOf v3 m).bind fun q1 =>
    if q1.1 = (-2) then
      some (Sum.inl ((v3 + 1), q1.2))
    else
      if ((v1 >>> (q1.1 &&& 31)) &&& 1) = 0 then
        some (Sum.inl ((v3 + 1), q1.2))
      else
        (f_X10_at 26 (v1 &&& ((1 <<< (q1.1 &&& 31)) ^^^ (-1))) q1.2).bind fun q2 =>
        if q2.1 = (-1) then
          some (Sum.inl ((v3 + 1), q2.2))
        else
          if (q2.1 + 1) = v2 then
            some (Sum.inr (v3, q2.2))
          else
            some (Sum.inl ((v3 + 1), q2.2))
set_option maxHeartbeats 4000000 in
set_option maxRecDepth 100000 in
theorem b_X5_firstSale_L8b (e : Nat) (hd : 2 ≤ e) (v1 : Int32) (v2 : Int32) (v3 : Int32) (m : ej_M) {x : ((Int32 × ej_M) ⊕ (Int32 × ej_M))} {res : Option Value × ej_H} {K : ((Int32 × ej_M) ⊕ (Int32 × ej_M)) → Prop} (hf : f_X5_firstSale_L8b v1 v2 v3 m = some x) (hK : K x) (h1 : ∀ q : (Int32 × ej_M), K (Sum.inl q) → ej_Z cX5_firstSale 6 (some .int) RX5 "firstSale" (e + 1) 8 [(0, .ref 25), (1, .int v1), (2, .int v2), (3, .int q.1)] [] (ej_sh, q.2) res) (h0 : ∀ q : (Int32 × ej_M), K (Sum.inr q) → res = (some (Value.int q.1), (ej_sh, q.2))) : ej_Z cX5_firstSale 6 (some .int) RX5 "firstSale" (e + 1) 8 [(0, .ref 25), (1, .int v1), (2, .int v2), (3, .int v3)] [] (ej_sh, m) res := by
  unfold f_X5_firstSale_L8b at hf
  refine z_iload_n (pc := 8) (i := 3) (j := 3) dX5_firstSale_8 rfl rfl ?_
  refine z_bipush (pc := 9) dX5_firstSale_9 kb_8 ?_
  refine z_icmp_ge (pc := 11) (tgt := 82) dX5_firstSale_11 (by decide) (fun hc => ?_) (fun hc => ?_)
  · rw [if_pos hc] at hf
    refine z_bipush (pc := 82) dX5_firstSale_82 kb_n2 ?_
    obtain rfl := Option.some.inj hf
    rw [h0 _ hK]
    exact z_iret dX5_firstSale_84 rfl rfl
  · rw [if_neg hc] at hf
    refine z_aload_n (pc := 14) (i := 0) (j := 0) dX5_firstSale_14 rfl rfl ?_
    refine z_ogetR (pc := 15) dX5_firstSale_15 lf_RX5_18 sh_25 rfl rfl rfl ?_
    refine z_iload_n (pc := 18) (i := 3) (j := 3) dX5_firstSale_18 rfl rfl ?_
    obtain ⟨q1, hq1, hf⟩ := Option.bind_eq_some_iff.mp hf
    refine z_oVi (pc := 19) (as := [.int v3]) (rest := []) dX5_firstSale_19 lm_RX5_63 mf_X4_placeOf mi_X4_placeOf mv_X4_placeOf rc_6 rfl rfl (Nat.le_of_ble_eq_true rfl) (c_X4_placeOf e (by omega) v3 m hq1) ?_
    refine z_istore (pc := 22) (i := 4) (ls' := [(4, .int q1.1), (0, .ref 25), (1, .int v1), (2, .int v2), (3, .int v3)]) dX5_firstSale_22 (Nat.le_of_ble_eq_true rfl) rfl ?_
    refine z_iload (pc := 24) (i := 4) (j := 0) dX5_firstSale_24 rfl ?_
    refine z_bipush (pc := 26) dX5_firstSale_26 kb_n2 ?_
    refine z_icmp_eq (pc := 28) (tgt := 76) dX5_firstSale_28 (by decide) (fun hc => ?_) (fun hc => ?_)
    · rw [if_pos hc] at hf
      refine z_iinc (pc := 76) (j := 4) (ls' := [(3, .int (v3 + 1)), (4, .int q1.1), (0, .ref 25), (1, .int v1), (2, .int v2)]) dX5_firstSale_76 rfl ki_1 (Nat.le_of_ble_eq_true rfl) rfl ?_
      refine z_goto (pc := 79) (tgt := 8) dX5_firstSale_79 (by decide) ?_
      obtain rfl := Option.some.inj hf
      exact z_pick (ls' := [(0, .ref 25), (1, .int v1), (2, .int v2), (3, .int (v3 + 1))]) [2, 3, 4, 0] rfl (h1 ((v3 + 1), q1.2) hK)
    · rw [if_neg hc] at hf
      refine z_iload_n (pc := 31) (i := 1) (j := 2) dX5_firstSale_31 rfl rfl ?_
      refine z_iload (pc := 32) (i := 4) (j := 0) dX5_firstSale_32 rfl ?_
      refine z_ishr (pc := 34) dX5_firstSale_34 ?_
      refine z_iconst (pc := 35) dX5_firstSale_35 ki_1 ?_
      refine z_iand (pc := 36) dX5_firstSale_36 ?_
      refine z_if_ne (pc := 37) (tgt := 43) dX5_firstSale_37 (by decide) (fun hc => ?_) (fun hc => ?_)
      · rw [if_neg hc] at hf
        refine z_aload_n (pc := 43) (i := 0) (j := 1) dX5_firstSale_43 rfl rfl ?_
        refine z_ogetR (pc := 44) dX5_firstSale_44 lf_RX5_9 sh_25 rfl rfl rfl ?_
        refine z_iload_n (pc := 47) (i := 1) (j := 2) dX5_firstSale_47 rfl rfl ?_
        refine z_iconst (pc := 48) dX5_firstSale_48 ki_1 ?_
        refine z_iload (pc := 49) (i := 4) (j := 0) dX5_firstSale_49 rfl ?_
        refine z_ishl (pc := 51) dX5_firstSale_51 ?_
        refine z_iconst (pc := 52) dX5_firstSale_52 ki_n1 ?_
        refine z_ixor (pc := 53) dX5_firstSale_53 ?_
        refine z_iand (pc := 54) dX5_firstSale_54 ?_
        obtain ⟨q2, hq2, hf⟩ := Option.bind_eq_some_iff.mp hf
        refine z_oSi (pc := 55) (as := [.ref 26, .int (v1 &&& ((1 <<< (q1.1 &&& 31)) ^^^ (-1)))]) (rest := []) dX5_firstSale_55 lm_RX5_47 mf_X10_at ms_X10_at rfl rfl (Nat.le_of_ble_eq_true rfl) (c_X10_at e (by omega) 26 (v1 &&& ((1 <<< (q1.1 &&& 31)) ^^^ (-1))) q1.2 hq2) ?_
        refine z_istore (pc := 58) (i := 5) (ls' := [(5, .int q2.1), (4, .int q1.1), (0, .ref 25), (1, .int v1), (2, .int v2), (3, .int v3)]) dX5_firstSale_58 (Nat.le_of_ble_eq_true rfl) rfl ?_
        refine z_iload (pc := 60) (i := 5) (j := 0) dX5_firstSale_60 rfl ?_
        refine z_iconst (pc := 62) dX5_firstSale_62 ki_n1 ?_
        refine z_icmp_eq (pc := 63) (tgt := 76) dX5_firstSale_63 (by decide) (fun hc => ?_) (fun hc => ?_)
        · rw [if_pos hc] at hf
          refine z_iinc (pc := 76) (j := 5) (ls' := [(3, .int (v3 + 1)), (5, .int q2.1), (4, .int q1.1), (0, .ref 25), (1, .int v1), (2, .int v2)]) dX5_firstSale_76 rfl ki_1 (Nat.le_of_ble_eq_true rfl) rfl ?_
          refine z_goto (pc := 79) (tgt := 8) dX5_firstSale_79 (by decide) ?_
          obtain rfl := Option.some.inj hf
          exact z_pick (ls' := [(0, .ref 25), (1, .int v1), (2, .int v2), (3, .int (v3 + 1))]) [3, 4, 5, 0] rfl (h1 ((v3 + 1), q2.2) hK)
        · rw [if_neg hc] at hf
          refine z_iload (pc := 66) (i := 5) (j := 0) dX5_firstSale_66 rfl ?_
          refine z_iconst (pc := 68) dX5_firstSale_68 ki_1 ?_
          refine z_iadd (pc := 69) dX5_firstSale_69 ?_
          refine z_iload_n (pc := 70) (i := 2) (j := 4) dX5_firstSale_70 rfl rfl ?_
          refine z_icmp_ne (pc := 71) (tgt := 76) dX5_firstSale_71 (by decide) (fun hc => ?_) (fun hc => ?_)
          · rw [if_neg hc] at hf
            refine z_iinc (pc := 76) (j := 5) (ls' := [(3, .int (v3 + 1)), (5, .int q2.1), (4, .int q1.1), (0, .ref 25), (1, .int v1), (2, .int v2)]) dX5_firstSale_76 rfl ki_1 (Nat.le_of_ble_eq_true rfl) rfl ?_
            refine z_goto (pc := 79) (tgt := 8) dX5_firstSale_79 (by decide) ?_
            obtain rfl := Option.some.inj hf
            exact z_pick (ls' := [(0, .ref 25), (1, .int v1), (2, .int v2), (3, .int (v3 + 1))]) [3, 4, 5, 0] rfl (h1 ((v3 + 1), q2.2) hK)
          · rw [if_pos hc] at hf
            refine z_iload_n (pc := 74) (i := 3) (j := 5) dX5_firstSale_74 rfl rfl ?_
            obtain rfl := Option.some.inj hf
            rw [h0 _ hK]
            exact z_iret dX5_firstSale_75 rfl rfl
      · rw [if_pos hc] at hf
        refine z_goto (pc := 40) (tgt := 76) dX5_firstSale_40 (by decide) ?_
        refine z_iinc (pc := 76) (j := 4) (ls' := [(3, .int (v3 + 1)), (4, .int q1.1), (0, .ref 25), (1, .int v1), (2, .int v2)]) dX5_firstSale_76 rfl ki_1 (Nat.le_of_ble_eq_true rfl) rfl ?_
        refine z_goto (pc := 79) (tgt := 8) dX5_firstSale_79 (by decide) ?_
        obtain rfl := Option.some.inj hf
        exact z_pick (ls' := [(0, .ref 25), (1, .int v1), (2, .int v2), (3, .int (v3 + 1))]) [2, 3, 4, 0] rfl (h1 ((v3 + 1), q1.2) hK)
def f_X5_firstSale_L8 (v1 : Int32) (v2 : Int32) (v3 : Int32) (m : ej_M) : Option (Int32 × ej_M) := oj_loop (fun q : (Int32 × ej_M) => f_X5_firstSale_L8b v1 v2 q.1 q.2) oj_FU (v3, m)
set_option maxHeartbeats 4000000 in
set_option maxRecDepth 100000 in
theorem b_X5_firstSale_L8 (e : Nat) (hd : 2 ≤ e) (v1 : Int32) (v2 : Int32) (v3 : Int32) (m : ej_M) {x : (Int32 × ej_M)} {res : Option Value × ej_H} {K : (Int32 × ej_M) → Prop} (hf : f_X5_firstSale_L8 v1 v2 v3 m = some x) (hK : K x) (h0 : ∀ q : (Int32 × ej_M), K q → res = (some (Value.int q.1), (ej_sh, q.2))) : ej_Z cX5_firstSale 6 (some .int) RX5 "firstSale" (e + 1) 8 [(0, .ref 25), (1, .int v1), (2, .int v2), (3, .int v3)] [] (ej_sh, m) res :=
  oj_loop_Z (body := fun q : (Int32 × ej_M) => f_X5_firstSale_L8b v1 v2 q.1 q.2) (P := fun q : (Int32 × ej_M) => ej_Z cX5_firstSale 6 (some .int) RX5 "firstSale" (e + 1) 8 [(0, .ref 25), (1, .int v1), (2, .int v2), (3, .int q.1)] [] (ej_sh, q.2) res) (K := K) (fun s x hb hl hr => b_X5_firstSale_L8b e hd v1 v2  s.1 s.2 (K := fun x => (∀ s' : (Int32 × ej_M), x = Sum.inl s' → ej_Z cX5_firstSale 6 (some .int) RX5 "firstSale" (e + 1) 8 [(0, .ref 25), (1, .int v1), (2, .int v2), (3, .int s'.1)] [] (ej_sh, s'.2) res) ∧ ∀ e, x = Sum.inr e → K e) hb ⟨hl, hr⟩ (fun q hq => hq.1 q rfl) (fun q hq => h0 q (hq.2 _ rfl))) oj_FU (v3, m) x hf hK
def f_X5_firstSale (v1 : Int32) (m : ej_M) : Option (Int32 × ej_M) :=
  (f_X5_mostFrom v1 m).bind fun q1 =>
  f_X5_firstSale_L8 v1 q1.1 0 q1.2
set_option maxHeartbeats 4000000 in
set_option maxRecDepth 100000 in
theorem b_X5_firstSale (e : Nat) (hd : 2 ≤ e) (v1 : Int32) (m : ej_M) {x : (Int32 × ej_M)} {res : Option Value × ej_H} {K : (Int32 × ej_M) → Prop} (hf : f_X5_firstSale v1 m = some x) (hK : K x) (h0 : ∀ q : (Int32 × ej_M), K q → res = (some (Value.int q.1), (ej_sh, q.2))) : ej_Z cX5_firstSale 6 (some .int) RX5 "firstSale" (e + 1) 0 [(0, .ref 25), (1, .int v1)] [] (ej_sh, m) res := by
  unfold f_X5_firstSale at hf
  refine z_aload_n (pc := 0) (i := 0) (j := 0) dX5_firstSale_0 rfl rfl ?_
  refine z_iload_n (pc := 1) (i := 1) (j := 1) dX5_firstSale_1 rfl rfl ?_
  obtain ⟨q1, hq1, hf⟩ := Option.bind_eq_some_iff.mp hf
  refine z_oVi (pc := 2) (as := [.int v1]) (rest := []) dX5_firstSale_2 lm_RX5_36 mf_X5_mostFrom mi_X5_mostFrom mv_X5_mostFrom rc_25 rfl rfl (Nat.le_of_ble_eq_true rfl) (c_X5_mostFrom e (by omega) v1 m hq1) ?_
  refine z_istore_n (pc := 5) (i := 2) (ls' := [(2, .int q1.1), (0, .ref 25), (1, .int v1)]) dX5_firstSale_5 rfl (Nat.le_of_ble_eq_true rfl) rfl ?_
  refine z_iconst (pc := 6) dX5_firstSale_6 ki_0 ?_
  refine z_istore_n (pc := 7) (i := 3) (ls' := [(3, .int 0), (2, .int q1.1), (0, .ref 25), (1, .int v1)]) dX5_firstSale_7 rfl (Nat.le_of_ble_eq_true rfl) rfl ?_
  exact z_pick [2, 3, 1, 0] rfl (b_X5_firstSale_L8 e hd v1 q1.1 0 q1.2 (K := K) hf hK  h0)
set_option maxHeartbeats 4000000 in
set_option maxRecDepth 100000 in
theorem c_X5_firstSale (d : Nat) (hd : 3 ≤ d) (v1 : Int32) (m : ej_M) {q : (Int32 × ej_M)} (hf : f_X5_firstSale v1 m = some q) : ej_Ct yX5_firstSale cX5_firstSale 6 (some .int) d [.ref 25, .int v1] (ej_sh, m) ((some (Value.int q.1), (ej_sh, q.2)) : Option Value × ej_H) := by
  obtain ⟨e, rfl⟩ : ∃ e, d = e + 1 := ⟨d - 1, by omega⟩
  exact z_met (by decide +kernel) (Nat.le_of_ble_eq_true rfl) (b_X5_firstSale e (by omega) v1 m (K := fun z => ((some (Value.int q.1), (ej_sh, q.2)) : Option Value × ej_H) = (some (Value.int z.1), (ej_sh, z.2))) hf rfl (fun _ h => h))
def f_X5_sale_L11b (v1 : Int32) (v2 : Int32) (v3 : Int32) (v4 : Int32) (m : ej_M) : Option ((Int32 × Int32 × Int32 × ej_M) ⊕ (Int32 × ej_M)) :=
  if v1 < v4 then
    some (Sum.inr (v3, m))
  else
    (f_X5_firstSale v2 m).bind fun q1 =>
    if q1.1 = (-2) then
      some (Sum.inr ((-2), q1.2))
    else
      (f_X4_placeOf q1.1 q1.2).bind fun q2 =>
      some (Sum.inl ((v2 &&& ((1 <<< (q2.1 &&& 31)) ^^^ (-1))), q1.1, (v4 + 1), q2.2))
set_option maxHeartbeats 4000000 in
set_option maxRecDepth 100000 in
theorem b_X5_sale_L11b (e : Nat) (hd : 3 ≤ e) (v1 : Int32) (v2 : Int32) (v3 : Int32) (v4 : Int32) (m : ej_M) {x : ((Int32 × Int32 × Int32 × ej_M) ⊕ (Int32 × ej_M))} {res : Option Value × ej_H} {K : ((Int32 × Int32 × Int32 × ej_M) ⊕ (Int32 × ej_M)) → Prop} (hf : f_X5_sale_L11b v1 v2 v3 v4 m = some x) (hK : K x) (h1 : ∀ q : (Int32 × Int32 × Int32 × ej_M), K (Sum.inl q) → ej_Z cX5_sale 5 (some .int) RX5 "sale" (e + 1) 11 [(0, .ref 25), (1, .int v1), (2, .int q.1), (3, .int q.2.1), (4, .int q.2.2.1)] [] (ej_sh, q.2.2.2) res) (h0 : ∀ q : (Int32 × ej_M), K (Sum.inr q) → res = (some (Value.int q.1), (ej_sh, q.2))) : ej_Z cX5_sale 5 (some .int) RX5 "sale" (e + 1) 11 [(0, .ref 25), (1, .int v1), (2, .int v2), (3, .int v3), (4, .int v4)] [] (ej_sh, m) res := by
  unfold f_X5_sale_L11b at hf
  refine z_iload (pc := 11) (i := 4) (j := 4) dX5_sale_11 rfl ?_
  refine z_iload_n (pc := 13) (i := 1) (j := 1) dX5_sale_13 rfl rfl ?_
  refine z_icmp_gt (pc := 14) (tgt := 53) dX5_sale_14 (by decide) (fun hc => ?_) (fun hc => ?_)
  · rw [if_pos hc] at hf
    refine z_iload_n (pc := 53) (i := 3) (j := 3) dX5_sale_53 rfl rfl ?_
    obtain rfl := Option.some.inj hf
    rw [h0 _ hK]
    exact z_iret dX5_sale_54 rfl rfl
  · rw [if_neg hc] at hf
    refine z_aload_n (pc := 17) (i := 0) (j := 0) dX5_sale_17 rfl rfl ?_
    refine z_iload_n (pc := 18) (i := 2) (j := 2) dX5_sale_18 rfl rfl ?_
    obtain ⟨q1, hq1, hf⟩ := Option.bind_eq_some_iff.mp hf
    refine z_oVi (pc := 19) (as := [.int v2]) (rest := []) dX5_sale_19 lm_RX5_60 mf_X5_firstSale mi_X5_firstSale mv_X5_firstSale rc_25 rfl rfl (Nat.le_of_ble_eq_true rfl) (c_X5_firstSale e (by omega) v2 m hq1) ?_
    refine z_istore_n (pc := 22) (i := 3) (ls' := [(3, .int q1.1), (0, .ref 25), (1, .int v1), (2, .int v2), (4, .int v4)]) dX5_sale_22 rfl (Nat.le_of_ble_eq_true rfl) rfl ?_
    refine z_iload_n (pc := 23) (i := 3) (j := 0) dX5_sale_23 rfl rfl ?_
    refine z_bipush (pc := 24) dX5_sale_24 kb_n2 ?_
    refine z_icmp_ne (pc := 26) (tgt := 32) dX5_sale_26 (by decide) (fun hc => ?_) (fun hc => ?_)
    · rw [if_neg hc] at hf
      refine z_iload_n (pc := 32) (i := 2) (j := 3) dX5_sale_32 rfl rfl ?_
      refine z_iconst (pc := 33) dX5_sale_33 ki_1 ?_
      refine z_aload_n (pc := 34) (i := 0) (j := 1) dX5_sale_34 rfl rfl ?_
      refine z_ogetR (pc := 35) dX5_sale_35 lf_RX5_18 sh_25 rfl rfl rfl ?_
      refine z_iload_n (pc := 38) (i := 3) (j := 0) dX5_sale_38 rfl rfl ?_
      obtain ⟨q2, hq2, hf⟩ := Option.bind_eq_some_iff.mp hf
      refine z_oVi (pc := 39) (as := [.int q1.1]) (rest := [.int 1, .int v2]) dX5_sale_39 lm_RX5_63 mf_X4_placeOf mi_X4_placeOf mv_X4_placeOf rc_6 rfl rfl (Nat.le_of_ble_eq_true rfl) (c_X4_placeOf e (by omega) q1.1 q1.2 hq2) ?_
      refine z_ishl (pc := 42) dX5_sale_42 ?_
      refine z_iconst (pc := 43) dX5_sale_43 ki_n1 ?_
      refine z_ixor (pc := 44) dX5_sale_44 ?_
      refine z_iand (pc := 45) dX5_sale_45 ?_
      refine z_istore_n (pc := 46) (i := 2) (ls' := [(2, .int (v2 &&& ((1 <<< (q2.1 &&& 31)) ^^^ (-1)))), (3, .int q1.1), (0, .ref 25), (1, .int v1), (4, .int v4)]) dX5_sale_46 rfl (Nat.le_of_ble_eq_true rfl) rfl ?_
      refine z_iinc (pc := 47) (j := 4) (ls' := [(4, .int (v4 + 1)), (2, .int (v2 &&& ((1 <<< (q2.1 &&& 31)) ^^^ (-1)))), (3, .int q1.1), (0, .ref 25), (1, .int v1)]) dX5_sale_47 rfl ki_1 (Nat.le_of_ble_eq_true rfl) rfl ?_
      refine z_goto (pc := 50) (tgt := 11) dX5_sale_50 (by decide) ?_
      obtain rfl := Option.some.inj hf
      exact z_pick (ls' := [(0, .ref 25), (1, .int v1), (2, .int (v2 &&& ((1 <<< (q2.1 &&& 31)) ^^^ (-1)))), (3, .int q1.1), (4, .int (v4 + 1))]) [3, 4, 1, 2, 0] rfl (h1 ((v2 &&& ((1 <<< (q2.1 &&& 31)) ^^^ (-1))), q1.1, (v4 + 1), q2.2) hK)
    · rw [if_pos hc] at hf
      refine z_bipush (pc := 29) dX5_sale_29 kb_n2 ?_
      obtain rfl := Option.some.inj hf
      rw [h0 _ hK]
      exact z_iret dX5_sale_31 rfl rfl
def f_X5_sale_L11 (v1 : Int32) (v2 : Int32) (v3 : Int32) (v4 : Int32) (m : ej_M) : Option (Int32 × ej_M) := oj_loop (fun q : (Int32 × Int32 × Int32 × ej_M) => f_X5_sale_L11b v1 q.1 q.2.1 q.2.2.1 q.2.2.2) oj_FU (v2, v3, v4, m)
set_option maxHeartbeats 4000000 in
set_option maxRecDepth 100000 in
theorem b_X5_sale_L11 (e : Nat) (hd : 3 ≤ e) (v1 : Int32) (v2 : Int32) (v3 : Int32) (v4 : Int32) (m : ej_M) {x : (Int32 × ej_M)} {res : Option Value × ej_H} {K : (Int32 × ej_M) → Prop} (hf : f_X5_sale_L11 v1 v2 v3 v4 m = some x) (hK : K x) (h0 : ∀ q : (Int32 × ej_M), K q → res = (some (Value.int q.1), (ej_sh, q.2))) : ej_Z cX5_sale 5 (some .int) RX5 "sale" (e + 1) 11 [(0, .ref 25), (1, .int v1), (2, .int v2), (3, .int v3), (4, .int v4)] [] (ej_sh, m) res :=
  oj_loop_Z (body := fun q : (Int32 × Int32 × Int32 × ej_M) => f_X5_sale_L11b v1 q.1 q.2.1 q.2.2.1 q.2.2.2) (P := fun q : (Int32 × Int32 × Int32 × ej_M) => ej_Z cX5_sale 5 (some .int) RX5 "sale" (e + 1) 11 [(0, .ref 25), (1, .int v1), (2, .int q.1), (3, .int q.2.1), (4, .int q.2.2.1)] [] (ej_sh, q.2.2.2) res) (K := K) (fun s x hb hl hr => b_X5_sale_L11b e hd v1  s.1 s.2.1 s.2.2.1 s.2.2.2 (K := fun x => (∀ s' : (Int32 × Int32 × Int32 × ej_M), x = Sum.inl s' → ej_Z cX5_sale 5 (some .int) RX5 "sale" (e + 1) 11 [(0, .ref 25), (1, .int v1), (2, .int s'.1), (3, .int s'.2.1), (4, .int s'.2.2.1)] [] (ej_sh, s'.2.2.2) res) ∧ ∀ e, x = Sum.inr e → K e) hb ⟨hl, hr⟩ (fun q hq => hq.1 q rfl) (fun q hq => h0 q (hq.2 _ rfl))) oj_FU (v2, v3, v4, m) x hf hK
def f_X5_sale (v1 : Int32) (m : ej_M) : Option (Int32 × ej_M) :=
  (f_X5_all m).bind fun q1 =>
  f_X5_sale_L11 v1 q1.1 (-2) 0 q1.2
set_option maxHeartbeats 4000000 in
set_option maxRecDepth 100000 in
theorem b_X5_sale (e : Nat) (hd : 3 ≤ e) (v1 : Int32) (m : ej_M) {x : (Int32 × ej_M)} {res : Option Value × ej_H} {K : (Int32 × ej_M) → Prop} (hf : f_X5_sale v1 m = some x) (hK : K x) (h0 : ∀ q : (Int32 × ej_M), K q → res = (some (Value.int q.1), (ej_sh, q.2))) : ej_Z cX5_sale 5 (some .int) RX5 "sale" (e + 1) 0 [(0, .ref 25), (1, .int v1)] [] (ej_sh, m) res := by
  unfold f_X5_sale at hf
  refine z_aload_n (pc := 0) (i := 0) (j := 0) dX5_sale_0 rfl rfl ?_
  obtain ⟨q1, hq1, hf⟩ := Option.bind_eq_some_iff.mp hf
  refine z_oVi (pc := 1) (as := []) (rest := []) dX5_sale_1 lm_RX5_28 mf_X5_all mi_X5_all mv_X5_all rc_25 rfl rfl (Nat.le_of_ble_eq_true rfl) (c_X5_all e (by omega) m hq1) ?_
  refine z_istore_n (pc := 4) (i := 2) (ls' := [(2, .int q1.1), (0, .ref 25), (1, .int v1)]) dX5_sale_4 rfl (Nat.le_of_ble_eq_true rfl) rfl ?_
  refine z_bipush (pc := 5) dX5_sale_5 kb_n2 ?_
  refine z_istore_n (pc := 7) (i := 3) (ls' := [(3, .int (-2)), (2, .int q1.1), (0, .ref 25), (1, .int v1)]) dX5_sale_7 rfl (Nat.le_of_ble_eq_true rfl) rfl ?_
  refine z_iconst (pc := 8) dX5_sale_8 ki_0 ?_
  refine z_istore (pc := 9) (i := 4) (ls' := [(4, .int 0), (3, .int (-2)), (2, .int q1.1), (0, .ref 25), (1, .int v1)]) dX5_sale_9 (Nat.le_of_ble_eq_true rfl) rfl ?_
  exact z_pick [3, 4, 2, 1, 0] rfl (b_X5_sale_L11 e hd v1 q1.1 (-2) 0 q1.2 (K := K) hf hK  h0)
set_option maxHeartbeats 4000000 in
set_option maxRecDepth 100000 in
theorem c_X5_sale (d : Nat) (hd : 4 ≤ d) (v1 : Int32) (m : ej_M) {q : (Int32 × ej_M)} (hf : f_X5_sale v1 m = some q) : ej_Ct yX5_sale cX5_sale 5 (some .int) d [.ref 25, .int v1] (ej_sh, m) ((some (Value.int q.1), (ej_sh, q.2)) : Option Value × ej_H) := by
  obtain ⟨e, rfl⟩ : ∃ e, d = e + 1 := ⟨d - 1, by omega⟩
  exact z_met (by decide +kernel) (Nat.le_of_ble_eq_true rfl) (b_X5_sale e (by omega) v1 m (K := fun z => ((some (Value.int q.1), (ej_sh, q.2)) : Option Value × ej_H) = (some (Value.int z.1), (ej_sh, z.2))) hf rfl (fun _ h => h))
def f_X10_soldOn (v1 : Int32) (m : ej_M) : Option (Int32 × ej_M) :=
  if (-1) ≤ v1 then
    (f_X5_most m).bind fun q1 =>
    if v1 = (-1) then
      some (q1.1, q1.2)
    else
      if q1.1 ≤ v1 then
        some ((-2), q1.2)
      else
        (f_X5_sale v1 q1.2).bind fun q2 =>
        some (q2.1, q2.2)
  else
    some ((-1), m)
set_option maxHeartbeats 4000000 in
set_option maxRecDepth 100000 in
theorem b_X10_soldOn (e : Nat) (hd : 6 ≤ e) (v1 : Int32) (m : ej_M) {x : (Int32 × ej_M)} {res : Option Value × ej_H} {K : (Int32 × ej_M) → Prop} (hf : f_X10_soldOn v1 m = some x) (hK : K x) (h0 : ∀ q : (Int32 × ej_M), K q → res = (some (Value.int q.1), (ej_sh, q.2))) : ej_Z cX10_soldOn 3 (some .int) RX10 "soldOn" (e + 1) 0 [(0, .ref 0), (1, .int v1)] [] (ej_sh, m) res := by
  unfold f_X10_soldOn at hf
  refine z_iload_n (pc := 0) (i := 1) (j := 1) dX10_soldOn_0 rfl rfl ?_
  refine z_iconst (pc := 1) dX10_soldOn_1 ki_n1 ?_
  refine z_icmp_ge (pc := 2) (tgt := 7) dX10_soldOn_2 (by decide) (fun hc => ?_) (fun hc => ?_)
  · rw [if_pos hc] at hf
    refine z_aload_n (pc := 7) (i := 0) (j := 0) dX10_soldOn_7 rfl rfl ?_
    refine z_ogetR (pc := 8) dX10_soldOn_8 lf_RX10_58 sh_0 rfl rfl rfl ?_
    obtain ⟨q1, hq1, hf⟩ := Option.bind_eq_some_iff.mp hf
    refine z_oVi (pc := 11) (as := []) (rest := []) dX10_soldOn_11 lm_RX10_219 mf_X5_most mi_X5_most mv_X5_most rc_25 rfl rfl (Nat.le_of_ble_eq_true rfl) (c_X5_most e (by omega) m hq1) ?_
    refine z_istore_n (pc := 14) (i := 2) (ls' := [(2, .int q1.1), (0, .ref 0), (1, .int v1)]) dX10_soldOn_14 rfl (Nat.le_of_ble_eq_true rfl) rfl ?_
    refine z_iload_n (pc := 15) (i := 1) (j := 2) dX10_soldOn_15 rfl rfl ?_
    refine z_iconst (pc := 16) dX10_soldOn_16 ki_n1 ?_
    refine z_icmp_ne (pc := 17) (tgt := 22) dX10_soldOn_17 (by decide) (fun hc => ?_) (fun hc => ?_)
    · rw [if_neg hc] at hf
      refine z_iload_n (pc := 22) (i := 1) (j := 2) dX10_soldOn_22 rfl rfl ?_
      refine z_iload_n (pc := 23) (i := 2) (j := 0) dX10_soldOn_23 rfl rfl ?_
      refine z_icmp_ge (pc := 24) (tgt := 38) dX10_soldOn_24 (by decide) (fun hc => ?_) (fun hc => ?_)
      · rw [if_pos hc] at hf
        refine z_bipush (pc := 38) dX10_soldOn_38 kb_n2 ?_
        obtain rfl := Option.some.inj hf
        rw [h0 _ hK]
        exact z_iret dX10_soldOn_40 rfl rfl
      · rw [if_neg hc] at hf
        refine z_aload_n (pc := 27) (i := 0) (j := 1) dX10_soldOn_27 rfl rfl ?_
        refine z_ogetR (pc := 28) dX10_soldOn_28 lf_RX10_58 sh_0 rfl rfl rfl ?_
        refine z_iload_n (pc := 31) (i := 1) (j := 2) dX10_soldOn_31 rfl rfl ?_
        obtain ⟨q2, hq2, hf⟩ := Option.bind_eq_some_iff.mp hf
        refine z_oVi (pc := 32) (as := [.int v1]) (rest := []) dX10_soldOn_32 lm_RX10_222 mf_X5_sale mi_X5_sale mv_X5_sale rc_25 rfl rfl (Nat.le_of_ble_eq_true rfl) (c_X5_sale e (by omega) v1 q1.2 hq2) ?_
        refine z_goto (pc := 35) (tgt := 40) dX10_soldOn_35 (by decide) ?_
        obtain rfl := Option.some.inj hf
        rw [h0 _ hK]
        exact z_iret dX10_soldOn_40 rfl rfl
    · rw [if_pos hc] at hf
      refine z_iload_n (pc := 20) (i := 2) (j := 0) dX10_soldOn_20 rfl rfl ?_
      obtain rfl := Option.some.inj hf
      rw [h0 _ hK]
      exact z_iret dX10_soldOn_21 rfl rfl
  · rw [if_neg hc] at hf
    refine z_iconst (pc := 5) dX10_soldOn_5 ki_n1 ?_
    obtain rfl := Option.some.inj hf
    rw [h0 _ hK]
    exact z_iret dX10_soldOn_6 rfl rfl
set_option maxHeartbeats 4000000 in
set_option maxRecDepth 100000 in
theorem c_X10_soldOn (d : Nat) (hd : 7 ≤ d) (v1 : Int32) (m : ej_M) {q : (Int32 × ej_M)} (hf : f_X10_soldOn v1 m = some q) : ej_Ct yX10_soldOn cX10_soldOn 3 (some .int) d [.ref 0, .int v1] (ej_sh, m) ((some (Value.int q.1), (ej_sh, q.2)) : Option Value × ej_H) := by
  obtain ⟨e, rfl⟩ : ∃ e, d = e + 1 := ⟨d - 1, by omega⟩
  exact z_met (by decide +kernel) (Nat.le_of_ble_eq_true rfl) (b_X10_soldOn e (by omega) v1 m (K := fun z => ((some (Value.int q.1), (ej_sh, q.2)) : Option Value × ej_H) = (some (Value.int z.1), (ej_sh, z.2))) hf rfl (fun _ h => h))
def f_X11_isLawfulWithout (v1 : Int32) (m : ej_M) : Option (Int32 × ej_M) :=
  (f_X11_lookWithout v1 m).bind fun q1 =>
  (f_X11_isLawful q1.2).bind fun q2 =>
  oj_rz q2.1 q2.2
set_option maxHeartbeats 4000000 in
set_option maxRecDepth 100000 in
theorem b_X11_isLawfulWithout (e : Nat) (hd : 4 ≤ e) (v1 : Int32) (m : ej_M) {x : (Int32 × ej_M)} {res : Option Value × ej_H} {K : (Int32 × ej_M) → Prop} (hf : f_X11_isLawfulWithout v1 m = some x) (hK : K x) (h0 : ∀ q : (Int32 × ej_M), K q → res = (some (Value.int q.1), (ej_sh, q.2))) : ej_Z cX11_isLawfulWithout 2 (some .boolean) RX11 "isLawfulWithout" (e + 1) 0 [(0, .ref 41), (1, .int v1)] [] (ej_sh, m) res := by
  unfold f_X11_isLawfulWithout at hf
  refine z_aload_n (pc := 0) (i := 0) (j := 0) dX11_isLawfulWithout_0 rfl rfl ?_
  refine z_iload_n (pc := 1) (i := 1) (j := 1) dX11_isLawfulWithout_1 rfl rfl ?_
  obtain ⟨q1, hq1, hf⟩ := Option.bind_eq_some_iff.mp hf
  refine z_oVv (pc := 2) (as := [.int v1]) (rest := []) dX11_isLawfulWithout_2 lm_RX11_254 mf_X11_lookWithout mi_X11_lookWithout mv_X11_lookWithout rc_41 rfl rfl (Nat.le_of_ble_eq_true rfl) (c_X11_lookWithout e (by omega) v1 m hq1) ?_
  refine z_aload_n (pc := 5) (i := 0) (j := 0) dX11_isLawfulWithout_5 rfl rfl ?_
  obtain ⟨q2, hq2, hf⟩ := Option.bind_eq_some_iff.mp hf
  refine z_oVi (pc := 6) (as := []) (rest := []) dX11_isLawfulWithout_6 lm_RX11_230 mf_X11_isLawful mi_X11_isLawful mv_X11_isLawful rc_41 rfl rfl (Nat.le_of_ble_eq_true rfl) (c_X11_isLawful e (by omega) q1.2 hq2) ?_
  rw [h0 _ hK]
  exact z_oretz dX11_isLawfulWithout_9 rfl hf
set_option maxHeartbeats 4000000 in
set_option maxRecDepth 100000 in
theorem c_X11_isLawfulWithout (d : Nat) (hd : 5 ≤ d) (v1 : Int32) (m : ej_M) {q : (Int32 × ej_M)} (hf : f_X11_isLawfulWithout v1 m = some q) : ej_Ct yX11_isLawfulWithout cX11_isLawfulWithout 2 (some .boolean) d [.ref 41, .int v1] (ej_sh, m) ((some (Value.int q.1), (ej_sh, q.2)) : Option Value × ej_H) := by
  obtain ⟨e, rfl⟩ : ∃ e, d = e + 1 := ⟨d - 1, by omega⟩
  exact z_met (by decide +kernel) (Nat.le_of_ble_eq_true rfl) (b_X11_isLawfulWithout e (by omega) v1 m (K := fun z => ((some (Value.int q.1), (ej_sh, q.2)) : Option Value × ej_H) = (some (Value.int z.1), (ej_sh, z.2))) hf rfl (fun _ h => h))
def f_X11_standing_L4b (v1 : Int32) (v2 : Int32) (m : ej_M) : Option ((Int32 × Int32 × ej_M) ⊕ (Int32 × ej_M)) :=
  if (m.1 41 4) ≤ v2 then
    some (Sum.inr (v1, m))
  else
    (oj_ld 0 m 43 v2).bind fun w1 =>
    some (Sum.inl ((v1 ||| (1 <<< (w1 &&& 31))), (v2 + 1), m))
set_option maxHeartbeats 4000000 in
set_option maxRecDepth 100000 in
theorem b_X11_standing_L4b (d : Nat) (v1 : Int32) (v2 : Int32) (m : ej_M) {x : ((Int32 × Int32 × ej_M) ⊕ (Int32 × ej_M))} {res : Option Value × ej_H} {K : ((Int32 × Int32 × ej_M) ⊕ (Int32 × ej_M)) → Prop} (hf : f_X11_standing_L4b v1 v2 m = some x) (hK : K x) (h1 : ∀ q : (Int32 × Int32 × ej_M), K (Sum.inl q) → ej_Z cX11_standing 3 (some .int) RX11 "standing" d 4 [(0, .ref 41), (1, .int q.1), (2, .int q.2.1)] [] (ej_sh, q.2.2) res) (h0 : ∀ q : (Int32 × ej_M), K (Sum.inr q) → res = (some (Value.int q.1), (ej_sh, q.2))) : ej_Z cX11_standing 3 (some .int) RX11 "standing" d 4 [(0, .ref 41), (1, .int v1), (2, .int v2)] [] (ej_sh, m) res := by
  unfold f_X11_standing_L4b at hf
  refine z_iload_n (pc := 4) (i := 2) (j := 2) dX11_standing_4 rfl rfl ?_
  refine z_aload_n (pc := 5) (i := 0) (j := 0) dX11_standing_5 rfl rfl ?_
  refine z_ogetI (pc := 6) dX11_standing_6 lf_RX11_108 sh_41 rfl rfl ?_
  refine z_icmp_ge (pc := 9) (tgt := 29) dX11_standing_9 (by decide) (fun hc => ?_) (fun hc => ?_)
  · rw [if_pos hc] at hf
    refine z_iload_n (pc := 29) (i := 1) (j := 1) dX11_standing_29 rfl rfl ?_
    obtain rfl := Option.some.inj hf
    rw [h0 _ hK]
    exact z_iret dX11_standing_30 rfl rfl
  · rw [if_neg hc] at hf
    refine z_iload_n (pc := 12) (i := 1) (j := 1) dX11_standing_12 rfl rfl ?_
    refine z_iconst (pc := 13) dX11_standing_13 ki_1 ?_
    refine z_aload_n (pc := 14) (i := 0) (j := 0) dX11_standing_14 rfl rfl ?_
    refine z_ogetR (pc := 15) dX11_standing_15 lf_RX11_13 sh_41 rfl rfl rfl ?_
    refine z_iload_n (pc := 18) (i := 2) (j := 2) dX11_standing_18 rfl rfl ?_
    obtain ⟨w1, hw1, hf⟩ := Option.bind_eq_some_iff.mp hf
    refine z_oiald (pc := 19) dX11_standing_19 hw1 ?_
    refine z_ishl (pc := 20) dX11_standing_20 ?_
    refine z_ior (pc := 21) dX11_standing_21 ?_
    refine z_istore_n (pc := 22) (i := 1) (ls' := [(1, .int (v1 ||| (1 <<< (w1 &&& 31)))), (0, .ref 41), (2, .int v2)]) dX11_standing_22 rfl (Nat.le_of_ble_eq_true rfl) rfl ?_
    refine z_iinc (pc := 23) (j := 2) (ls' := [(2, .int (v2 + 1)), (1, .int (v1 ||| (1 <<< (w1 &&& 31)))), (0, .ref 41)]) dX11_standing_23 rfl ki_1 (Nat.le_of_ble_eq_true rfl) rfl ?_
    refine z_goto (pc := 26) (tgt := 4) dX11_standing_26 (by decide) ?_
    obtain rfl := Option.some.inj hf
    exact z_pick (ls' := [(0, .ref 41), (1, .int (v1 ||| (1 <<< (w1 &&& 31)))), (2, .int (v2 + 1))]) [2, 1, 0] rfl (h1 ((v1 ||| (1 <<< (w1 &&& 31))), (v2 + 1), m) hK)
def f_X11_standing_L4 (v1 : Int32) (v2 : Int32) (m : ej_M) : Option (Int32 × ej_M) := oj_loop (fun q : (Int32 × Int32 × ej_M) => f_X11_standing_L4b q.1 q.2.1 q.2.2) oj_FU (v1, v2, m)
set_option maxHeartbeats 4000000 in
set_option maxRecDepth 100000 in
theorem b_X11_standing_L4 (d : Nat) (v1 : Int32) (v2 : Int32) (m : ej_M) {x : (Int32 × ej_M)} {res : Option Value × ej_H} {K : (Int32 × ej_M) → Prop} (hf : f_X11_standing_L4 v1 v2 m = some x) (hK : K x) (h0 : ∀ q : (Int32 × ej_M), K q → res = (some (Value.int q.1), (ej_sh, q.2))) : ej_Z cX11_standing 3 (some .int) RX11 "standing" d 4 [(0, .ref 41), (1, .int v1), (2, .int v2)] [] (ej_sh, m) res :=
  oj_loop_Z (body := fun q : (Int32 × Int32 × ej_M) => f_X11_standing_L4b q.1 q.2.1 q.2.2) (P := fun q : (Int32 × Int32 × ej_M) => ej_Z cX11_standing 3 (some .int) RX11 "standing" d 4 [(0, .ref 41), (1, .int q.1), (2, .int q.2.1)] [] (ej_sh, q.2.2) res) (K := K) (fun s x hb hl hr => b_X11_standing_L4b d  s.1 s.2.1 s.2.2 (K := fun x => (∀ s' : (Int32 × Int32 × ej_M), x = Sum.inl s' → ej_Z cX11_standing 3 (some .int) RX11 "standing" d 4 [(0, .ref 41), (1, .int s'.1), (2, .int s'.2.1)] [] (ej_sh, s'.2.2) res) ∧ ∀ e, x = Sum.inr e → K e) hb ⟨hl, hr⟩ (fun q hq => hq.1 q rfl) (fun q hq => h0 q (hq.2 _ rfl))) oj_FU (v1, v2, m) x hf hK
def f_X11_standing  (m : ej_M) : Option (Int32 × ej_M) :=
  f_X11_standing_L4 0 0 m
set_option maxHeartbeats 4000000 in
set_option maxRecDepth 100000 in
theorem b_X11_standing (d : Nat)  (m : ej_M) {x : (Int32 × ej_M)} {res : Option Value × ej_H} {K : (Int32 × ej_M) → Prop} (hf : f_X11_standing  m = some x) (hK : K x) (h0 : ∀ q : (Int32 × ej_M), K q → res = (some (Value.int q.1), (ej_sh, q.2))) : ej_Z cX11_standing 3 (some .int) RX11 "standing" d 0 [(0, .ref 41)] [] (ej_sh, m) res := by
  unfold f_X11_standing at hf
  refine z_iconst (pc := 0) dX11_standing_0 ki_0 ?_
  refine z_istore_n (pc := 1) (i := 1) (ls' := [(1, .int 0), (0, .ref 41)]) dX11_standing_1 rfl (Nat.le_of_ble_eq_true rfl) rfl ?_
  refine z_iconst (pc := 2) dX11_standing_2 ki_0 ?_
  refine z_istore_n (pc := 3) (i := 2) (ls' := [(2, .int 0), (1, .int 0), (0, .ref 41)]) dX11_standing_3 rfl (Nat.le_of_ble_eq_true rfl) rfl ?_
  exact z_pick [2, 1, 0] rfl (b_X11_standing_L4 d 0 0 m (K := K) hf hK  h0)
set_option maxHeartbeats 4000000 in
set_option maxRecDepth 100000 in
theorem c_X11_standing (d : Nat) (hd : 0 ≤ d)  (m : ej_M) {q : (Int32 × ej_M)} (hf : f_X11_standing  m = some q) : ej_Ct yX11_standing cX11_standing 3 (some .int) d [.ref 41] (ej_sh, m) ((some (Value.int q.1), (ej_sh, q.2)) : Option Value × ej_H) := by
  exact z_met (by decide +kernel) (Nat.le_of_ble_eq_true rfl) (b_X11_standing d  m (K := fun z => ((some (Value.int q.1), (ej_sh, q.2)) : Option Value × ej_H) = (some (Value.int z.1), (ej_sh, z.2))) hf rfl (fun _ h => h))
def f_X11_findMost_L33b (v1 : Int32) (v2 : Int32) (v3 : Int32) (m : ej_M) : Option ((Int32 × ej_M) ⊕ ((Int32 × ej_M) ⊕ (Unit × ej_M))) :=
  if (m.1 41 1) ≤ v3 then
    some (Sum.inr (Sum.inl ((v2 + (-1)), m)))
  else
    if ((v1 >>> (v3 &&& 31)) &&& 1) = 0 then
      some (Sum.inl ((v3 + 1), m))
    else
      if (v2 ||| (1 <<< (v3 &&& 31))) = v2 then
        some (Sum.inl ((v3 + 1), m))
      else
        (f_X11_isLawfulWithout (v2 ||| (1 <<< (v3 &&& 31))) m).bind fun q1 =>
        if q1.1 = 0 then
          some (Sum.inl ((v3 + 1), q1.2))
        else
          (oj_ld 0 q1.2 59 (v2 ||| (1 <<< (v3 &&& 31)))).bind fun w2 =>
          (oj_ld 0 q1.2 59 v2).bind fun w3 =>
          if (1 + w2) ≤ w3 then
            some (Sum.inl ((v3 + 1), q1.2))
          else
            (oj_ld 0 q1.2 59 (v2 ||| (1 <<< (v3 &&& 31)))).bind fun w4 =>
            (oj_st 0 q1.2 59 v2 (1 + w4)).bind fun m5 =>
            some (Sum.inl ((v3 + 1), m5))
set_option maxHeartbeats 4000000 in
set_option maxRecDepth 100000 in
theorem b_X11_findMost_L33b (e : Nat) (hd : 5 ≤ e) (v1 : Int32) (v2 : Int32) (v3 : Int32) (m : ej_M) {x : ((Int32 × ej_M) ⊕ ((Int32 × ej_M) ⊕ (Unit × ej_M)))} {res : Option Value × ej_H} {K : ((Int32 × ej_M) ⊕ ((Int32 × ej_M) ⊕ (Unit × ej_M))) → Prop} (hf : f_X11_findMost_L33b v1 v2 v3 m = some x) (hK : K x) (h1 : ∀ q : (Int32 × ej_M), K (Sum.inl q) → ej_Z cX11_findMost 5 none RX11 "findMost" (e + 1) 33 [(0, .ref 41), (1, .int v1), (2, .int v2), (3, .int q.1)] [] (ej_sh, q.2) res) (h2 : ∀ q : (Int32 × ej_M), K (Sum.inr (Sum.inl q)) → ej_Z cX11_findMost 5 none RX11 "findMost" (e + 1) 9 [(0, .ref 41), (1, .int v1), (2, .int q.1)] [] (ej_sh, q.2) res) (h0 : ∀ q : (Unit × ej_M), K (Sum.inr (Sum.inr q)) → res = (none, (ej_sh, q.2))) : ej_Z cX11_findMost 5 none RX11 "findMost" (e + 1) 33 [(0, .ref 41), (1, .int v1), (2, .int v2), (3, .int v3)] [] (ej_sh, m) res := by
  unfold f_X11_findMost_L33b at hf
  refine z_iload_n (pc := 33) (i := 3) (j := 3) dX11_findMost_33 rfl rfl ?_
  refine z_aload_n (pc := 34) (i := 0) (j := 0) dX11_findMost_34 rfl rfl ?_
  refine z_ogetI (pc := 35) dX11_findMost_35 lf_RX11_101 sh_41 rfl rfl ?_
  refine z_icmp_ge (pc := 38) (tgt := 113) dX11_findMost_38 (by decide) (fun hc => ?_) (fun hc => ?_)
  · rw [if_pos hc] at hf
    refine z_iinc (pc := 113) (j := 2) (ls' := [(2, .int (v2 + (-1))), (0, .ref 41), (1, .int v1), (3, .int v3)]) dX11_findMost_113 rfl ki_n1 (Nat.le_of_ble_eq_true rfl) rfl ?_
    refine z_goto (pc := 116) (tgt := 9) dX11_findMost_116 (by decide) ?_
    obtain rfl := Option.some.inj hf
    exact z_pick (ls' := [(0, .ref 41), (1, .int v1), (2, .int (v2 + (-1)))]) [1, 2, 0] rfl (h2 ((v2 + (-1)), m) hK)
  · rw [if_neg hc] at hf
    refine z_iload_n (pc := 41) (i := 2) (j := 2) dX11_findMost_41 rfl rfl ?_
    refine z_iconst (pc := 42) dX11_findMost_42 ki_1 ?_
    refine z_iload_n (pc := 43) (i := 3) (j := 3) dX11_findMost_43 rfl rfl ?_
    refine z_ishl (pc := 44) dX11_findMost_44 ?_
    refine z_ior (pc := 45) dX11_findMost_45 ?_
    refine z_istore (pc := 46) (i := 4) (ls' := [(4, .int (v2 ||| (1 <<< (v3 &&& 31)))), (0, .ref 41), (1, .int v1), (2, .int v2), (3, .int v3)]) dX11_findMost_46 (Nat.le_of_ble_eq_true rfl) rfl ?_
    refine z_iload_n (pc := 48) (i := 1) (j := 2) dX11_findMost_48 rfl rfl ?_
    refine z_iload_n (pc := 49) (i := 3) (j := 4) dX11_findMost_49 rfl rfl ?_
    refine z_ishr (pc := 50) dX11_findMost_50 ?_
    refine z_iconst (pc := 51) dX11_findMost_51 ki_1 ?_
    refine z_iand (pc := 52) dX11_findMost_52 ?_
    refine z_if_eq (pc := 53) (tgt := 107) dX11_findMost_53 (by decide) (fun hc => ?_) (fun hc => ?_)
    · rw [if_pos hc] at hf
      refine z_iinc (pc := 107) (j := 4) (ls' := [(3, .int (v3 + 1)), (4, .int (v2 ||| (1 <<< (v3 &&& 31)))), (0, .ref 41), (1, .int v1), (2, .int v2)]) dX11_findMost_107 rfl ki_1 (Nat.le_of_ble_eq_true rfl) rfl ?_
      refine z_goto (pc := 110) (tgt := 33) dX11_findMost_110 (by decide) ?_
      obtain rfl := Option.some.inj hf
      exact z_pick (ls' := [(0, .ref 41), (1, .int v1), (2, .int v2), (3, .int (v3 + 1))]) [2, 3, 4, 0] rfl (h1 ((v3 + 1), m) hK)
    · rw [if_neg hc] at hf
      refine z_iload (pc := 56) (i := 4) (j := 0) dX11_findMost_56 rfl ?_
      refine z_iload_n (pc := 58) (i := 2) (j := 3) dX11_findMost_58 rfl rfl ?_
      refine z_icmp_eq (pc := 59) (tgt := 107) dX11_findMost_59 (by decide) (fun hc => ?_) (fun hc => ?_)
      · rw [if_pos hc] at hf
        refine z_iinc (pc := 107) (j := 4) (ls' := [(3, .int (v3 + 1)), (4, .int (v2 ||| (1 <<< (v3 &&& 31)))), (0, .ref 41), (1, .int v1), (2, .int v2)]) dX11_findMost_107 rfl ki_1 (Nat.le_of_ble_eq_true rfl) rfl ?_
        refine z_goto (pc := 110) (tgt := 33) dX11_findMost_110 (by decide) ?_
        obtain rfl := Option.some.inj hf
        exact z_pick (ls' := [(0, .ref 41), (1, .int v1), (2, .int v2), (3, .int (v3 + 1))]) [2, 3, 4, 0] rfl (h1 ((v3 + 1), m) hK)
      · rw [if_neg hc] at hf
        refine z_aload_n (pc := 62) (i := 0) (j := 1) dX11_findMost_62 rfl rfl ?_
        refine z_iload (pc := 63) (i := 4) (j := 0) dX11_findMost_63 rfl ?_
        obtain ⟨q1, hq1, hf⟩ := Option.bind_eq_some_iff.mp hf
        refine z_oVi (pc := 65) (as := [.int (v2 ||| (1 <<< (v3 &&& 31)))]) (rest := []) dX11_findMost_65 lm_RX11_300 mf_X11_isLawfulWithout mi_X11_isLawfulWithout mv_X11_isLawfulWithout rc_41 rfl rfl (Nat.le_of_ble_eq_true rfl) (c_X11_isLawfulWithout e (by omega) (v2 ||| (1 <<< (v3 &&& 31))) m hq1) ?_
        refine z_if_ne (pc := 68) (tgt := 74) dX11_findMost_68 (by decide) (fun hc => ?_) (fun hc => ?_)
        · rw [if_neg hc] at hf
          refine z_iconst (pc := 74) dX11_findMost_74 ki_1 ?_
          refine z_aload_n (pc := 75) (i := 0) (j := 1) dX11_findMost_75 rfl rfl ?_
          refine z_ogetR (pc := 76) dX11_findMost_76 lf_RX11_63 sh_41 rfl rfl rfl ?_
          refine z_iload (pc := 79) (i := 4) (j := 0) dX11_findMost_79 rfl ?_
          obtain ⟨w2, hw2, hf⟩ := Option.bind_eq_some_iff.mp hf
          refine z_oiald (pc := 81) dX11_findMost_81 hw2 ?_
          refine z_iadd (pc := 82) dX11_findMost_82 ?_
          refine z_aload_n (pc := 83) (i := 0) (j := 1) dX11_findMost_83 rfl rfl ?_
          refine z_ogetR (pc := 84) dX11_findMost_84 lf_RX11_63 sh_41 rfl rfl rfl ?_
          refine z_iload_n (pc := 87) (i := 2) (j := 3) dX11_findMost_87 rfl rfl ?_
          obtain ⟨w3, hw3, hf⟩ := Option.bind_eq_some_iff.mp hf
          refine z_oiald (pc := 88) dX11_findMost_88 hw3 ?_
          refine z_icmp_le (pc := 89) (tgt := 107) dX11_findMost_89 (by decide) (fun hc => ?_) (fun hc => ?_)
          · rw [if_pos hc] at hf
            refine z_iinc (pc := 107) (j := 4) (ls' := [(3, .int (v3 + 1)), (4, .int (v2 ||| (1 <<< (v3 &&& 31)))), (0, .ref 41), (1, .int v1), (2, .int v2)]) dX11_findMost_107 rfl ki_1 (Nat.le_of_ble_eq_true rfl) rfl ?_
            refine z_goto (pc := 110) (tgt := 33) dX11_findMost_110 (by decide) ?_
            obtain rfl := Option.some.inj hf
            exact z_pick (ls' := [(0, .ref 41), (1, .int v1), (2, .int v2), (3, .int (v3 + 1))]) [2, 3, 4, 0] rfl (h1 ((v3 + 1), q1.2) hK)
          · rw [if_neg hc] at hf
            refine z_aload_n (pc := 92) (i := 0) (j := 1) dX11_findMost_92 rfl rfl ?_
            refine z_ogetR (pc := 93) dX11_findMost_93 lf_RX11_63 sh_41 rfl rfl rfl ?_
            refine z_iload_n (pc := 96) (i := 2) (j := 3) dX11_findMost_96 rfl rfl ?_
            refine z_iconst (pc := 97) dX11_findMost_97 ki_1 ?_
            refine z_aload_n (pc := 98) (i := 0) (j := 1) dX11_findMost_98 rfl rfl ?_
            refine z_ogetR (pc := 99) dX11_findMost_99 lf_RX11_63 sh_41 rfl rfl rfl ?_
            refine z_iload (pc := 102) (i := 4) (j := 0) dX11_findMost_102 rfl ?_
            obtain ⟨w4, hw4, hf⟩ := Option.bind_eq_some_iff.mp hf
            refine z_oiald (pc := 104) dX11_findMost_104 hw4 ?_
            refine z_iadd (pc := 105) dX11_findMost_105 ?_
            obtain ⟨m5, hm5, hf⟩ := Option.bind_eq_some_iff.mp hf
            refine z_oiast (pc := 106) dX11_findMost_106 hm5 ?_
            refine z_iinc (pc := 107) (j := 4) (ls' := [(3, .int (v3 + 1)), (4, .int (v2 ||| (1 <<< (v3 &&& 31)))), (0, .ref 41), (1, .int v1), (2, .int v2)]) dX11_findMost_107 rfl ki_1 (Nat.le_of_ble_eq_true rfl) rfl ?_
            refine z_goto (pc := 110) (tgt := 33) dX11_findMost_110 (by decide) ?_
            obtain rfl := Option.some.inj hf
            exact z_pick (ls' := [(0, .ref 41), (1, .int v1), (2, .int v2), (3, .int (v3 + 1))]) [2, 3, 4, 0] rfl (h1 ((v3 + 1), m5) hK)
        · rw [if_pos hc] at hf
          refine z_goto (pc := 71) (tgt := 107) dX11_findMost_71 (by decide) ?_
          refine z_iinc (pc := 107) (j := 4) (ls' := [(3, .int (v3 + 1)), (4, .int (v2 ||| (1 <<< (v3 &&& 31)))), (0, .ref 41), (1, .int v1), (2, .int v2)]) dX11_findMost_107 rfl ki_1 (Nat.le_of_ble_eq_true rfl) rfl ?_
          refine z_goto (pc := 110) (tgt := 33) dX11_findMost_110 (by decide) ?_
          obtain rfl := Option.some.inj hf
          exact z_pick (ls' := [(0, .ref 41), (1, .int v1), (2, .int v2), (3, .int (v3 + 1))]) [2, 3, 4, 0] rfl (h1 ((v3 + 1), q1.2) hK)
def f_X11_findMost_L33 (v1 : Int32) (v2 : Int32) (v3 : Int32) (m : ej_M) : Option ((Int32 × ej_M) ⊕ (Unit × ej_M)) := oj_loop (fun q : (Int32 × ej_M) => f_X11_findMost_L33b v1 v2 q.1 q.2) oj_FU (v3, m)
set_option maxHeartbeats 4000000 in
set_option maxRecDepth 100000 in
theorem b_X11_findMost_L33 (e : Nat) (hd : 5 ≤ e) (v1 : Int32) (v2 : Int32) (v3 : Int32) (m : ej_M) {x : ((Int32 × ej_M) ⊕ (Unit × ej_M))} {res : Option Value × ej_H} {K : ((Int32 × ej_M) ⊕ (Unit × ej_M)) → Prop} (hf : f_X11_findMost_L33 v1 v2 v3 m = some x) (hK : K x) (h1 : ∀ q : (Int32 × ej_M), K (Sum.inl q) → ej_Z cX11_findMost 5 none RX11 "findMost" (e + 1) 9 [(0, .ref 41), (1, .int v1), (2, .int q.1)] [] (ej_sh, q.2) res) (h0 : ∀ q : (Unit × ej_M), K (Sum.inr q) → res = (none, (ej_sh, q.2))) : ej_Z cX11_findMost 5 none RX11 "findMost" (e + 1) 33 [(0, .ref 41), (1, .int v1), (2, .int v2), (3, .int v3)] [] (ej_sh, m) res :=
  oj_loop_Z (body := fun q : (Int32 × ej_M) => f_X11_findMost_L33b v1 v2 q.1 q.2) (P := fun q : (Int32 × ej_M) => ej_Z cX11_findMost 5 none RX11 "findMost" (e + 1) 33 [(0, .ref 41), (1, .int v1), (2, .int v2), (3, .int q.1)] [] (ej_sh, q.2) res) (K := K) (fun s x hb hl hr => b_X11_findMost_L33b e hd v1 v2  s.1 s.2 (K := fun x => (∀ s' : (Int32 × ej_M), x = Sum.inl s' → ej_Z cX11_findMost 5 none RX11 "findMost" (e + 1) 33 [(0, .ref 41), (1, .int v1), (2, .int v2), (3, .int s'.1)] [] (ej_sh, s'.2) res) ∧ ∀ e, x = Sum.inr e → K e) hb ⟨hl, hr⟩ (fun q hq => hq.1 q rfl) (fun q hq => h1 q (hq.2 _ rfl)) (fun q hq => h0 q (hq.2 _ rfl))) oj_FU (v3, m) x hf hK
def f_X11_findMost_L9b (v1 : Int32) (v2 : Int32) (m : ej_M) : Option ((Int32 × ej_M) ⊕ (Unit × ej_M)) :=
  if v2 < 0 then
    some (Sum.inr ((), m))
  else
    (oj_st 0 m 59 v2 0).bind fun m1 =>
    if (v2 &&& (v1 ^^^ (-1))) = 0 then
      f_X11_findMost_L33 v1 v2 0 m1
    else
      some (Sum.inl ((v2 + (-1)), m1))
set_option maxHeartbeats 4000000 in
set_option maxRecDepth 100000 in
theorem b_X11_findMost_L9b (e : Nat) (hd : 5 ≤ e) (v1 : Int32) (v2 : Int32) (m : ej_M) {x : ((Int32 × ej_M) ⊕ (Unit × ej_M))} {res : Option Value × ej_H} {K : ((Int32 × ej_M) ⊕ (Unit × ej_M)) → Prop} (hf : f_X11_findMost_L9b v1 v2 m = some x) (hK : K x) (h1 : ∀ q : (Int32 × ej_M), K (Sum.inl q) → ej_Z cX11_findMost 5 none RX11 "findMost" (e + 1) 9 [(0, .ref 41), (1, .int v1), (2, .int q.1)] [] (ej_sh, q.2) res) (h0 : ∀ q : (Unit × ej_M), K (Sum.inr q) → res = (none, (ej_sh, q.2))) : ej_Z cX11_findMost 5 none RX11 "findMost" (e + 1) 9 [(0, .ref 41), (1, .int v1), (2, .int v2)] [] (ej_sh, m) res := by
  unfold f_X11_findMost_L9b at hf
  refine z_iload_n (pc := 9) (i := 2) (j := 2) dX11_findMost_9 rfl rfl ?_
  refine z_if_lt (pc := 10) (tgt := 119) dX11_findMost_10 (by decide) (fun hc => ?_) (fun hc => ?_)
  · rw [if_pos hc] at hf
    obtain rfl := Option.some.inj hf
    rw [h0 _ hK]
    exact z_ret dX11_findMost_119 rfl
  · rw [if_neg hc] at hf
    refine z_aload_n (pc := 13) (i := 0) (j := 0) dX11_findMost_13 rfl rfl ?_
    refine z_ogetR (pc := 14) dX11_findMost_14 lf_RX11_63 sh_41 rfl rfl rfl ?_
    refine z_iload_n (pc := 17) (i := 2) (j := 2) dX11_findMost_17 rfl rfl ?_
    refine z_iconst (pc := 18) dX11_findMost_18 ki_0 ?_
    obtain ⟨m1, hm1, hf⟩ := Option.bind_eq_some_iff.mp hf
    refine z_oiast (pc := 19) dX11_findMost_19 hm1 ?_
    refine z_iload_n (pc := 20) (i := 2) (j := 2) dX11_findMost_20 rfl rfl ?_
    refine z_iload_n (pc := 21) (i := 1) (j := 1) dX11_findMost_21 rfl rfl ?_
    refine z_iconst (pc := 22) dX11_findMost_22 ki_n1 ?_
    refine z_ixor (pc := 23) dX11_findMost_23 ?_
    refine z_iand (pc := 24) dX11_findMost_24 ?_
    refine z_if_eq (pc := 25) (tgt := 31) dX11_findMost_25 (by decide) (fun hc => ?_) (fun hc => ?_)
    · rw [if_pos hc] at hf
      refine z_iconst (pc := 31) dX11_findMost_31 ki_0 ?_
      refine z_istore_n (pc := 32) (i := 3) (ls' := [(3, .int 0), (0, .ref 41), (1, .int v1), (2, .int v2)]) dX11_findMost_32 rfl (Nat.le_of_ble_eq_true rfl) rfl ?_
      exact z_pick [1, 2, 3, 0] rfl (b_X11_findMost_L33 e hd v1 v2 0 m1 (K := K) hf hK h1 h0)
    · rw [if_neg hc] at hf
      refine z_goto (pc := 28) (tgt := 113) dX11_findMost_28 (by decide) ?_
      refine z_iinc (pc := 113) (j := 2) (ls' := [(2, .int (v2 + (-1))), (0, .ref 41), (1, .int v1)]) dX11_findMost_113 rfl ki_n1 (Nat.le_of_ble_eq_true rfl) rfl ?_
      refine z_goto (pc := 116) (tgt := 9) dX11_findMost_116 (by decide) ?_
      obtain rfl := Option.some.inj hf
      exact z_pick (ls' := [(0, .ref 41), (1, .int v1), (2, .int (v2 + (-1)))]) [1, 2, 0] rfl (h1 ((v2 + (-1)), m1) hK)
def f_X11_findMost_L9 (v1 : Int32) (v2 : Int32) (m : ej_M) : Option (Unit × ej_M) := oj_loop (fun q : (Int32 × ej_M) => f_X11_findMost_L9b v1 q.1 q.2) oj_FU (v2, m)
set_option maxHeartbeats 4000000 in
set_option maxRecDepth 100000 in
theorem b_X11_findMost_L9 (e : Nat) (hd : 5 ≤ e) (v1 : Int32) (v2 : Int32) (m : ej_M) {x : (Unit × ej_M)} {res : Option Value × ej_H} {K : (Unit × ej_M) → Prop} (hf : f_X11_findMost_L9 v1 v2 m = some x) (hK : K x) (h0 : ∀ q : (Unit × ej_M), K q → res = (none, (ej_sh, q.2))) : ej_Z cX11_findMost 5 none RX11 "findMost" (e + 1) 9 [(0, .ref 41), (1, .int v1), (2, .int v2)] [] (ej_sh, m) res :=
  oj_loop_Z (body := fun q : (Int32 × ej_M) => f_X11_findMost_L9b v1 q.1 q.2) (P := fun q : (Int32 × ej_M) => ej_Z cX11_findMost 5 none RX11 "findMost" (e + 1) 9 [(0, .ref 41), (1, .int v1), (2, .int q.1)] [] (ej_sh, q.2) res) (K := K) (fun s x hb hl hr => b_X11_findMost_L9b e hd v1  s.1 s.2 (K := fun x => (∀ s' : (Int32 × ej_M), x = Sum.inl s' → ej_Z cX11_findMost 5 none RX11 "findMost" (e + 1) 9 [(0, .ref 41), (1, .int v1), (2, .int s'.1)] [] (ej_sh, s'.2) res) ∧ ∀ e, x = Sum.inr e → K e) hb ⟨hl, hr⟩ (fun q hq => hq.1 q rfl) (fun q hq => h0 q (hq.2 _ rfl))) oj_FU (v2, m) x hf hK
def f_X11_findMost  (m : ej_M) : Option (Unit × ej_M) :=
  (f_X11_standing m).bind fun q1 =>
  f_X11_findMost_L9 q1.1 255 q1.2
set_option maxHeartbeats 4000000 in
set_option maxRecDepth 100000 in
theorem b_X11_findMost (e : Nat) (hd : 5 ≤ e)  (m : ej_M) {x : (Unit × ej_M)} {res : Option Value × ej_H} {K : (Unit × ej_M) → Prop} (hf : f_X11_findMost  m = some x) (hK : K x) (h0 : ∀ q : (Unit × ej_M), K q → res = (none, (ej_sh, q.2))) : ej_Z cX11_findMost 5 none RX11 "findMost" (e + 1) 0 [(0, .ref 41)] [] (ej_sh, m) res := by
  unfold f_X11_findMost at hf
  refine z_aload_n (pc := 0) (i := 0) (j := 0) dX11_findMost_0 rfl rfl ?_
  obtain ⟨q1, hq1, hf⟩ := Option.bind_eq_some_iff.mp hf
  refine z_oVi (pc := 1) (as := []) (rest := []) dX11_findMost_1 lm_RX11_297 mf_X11_standing mi_X11_standing mv_X11_standing rc_41 rfl rfl (Nat.le_of_ble_eq_true rfl) (c_X11_standing e (by omega) m hq1) ?_
  refine z_istore_n (pc := 4) (i := 1) (ls' := [(1, .int q1.1), (0, .ref 41)]) dX11_findMost_4 rfl (Nat.le_of_ble_eq_true rfl) rfl ?_
  refine z_sipush (pc := 5) dX11_findMost_5 ks_255 ?_
  refine z_istore_n (pc := 8) (i := 2) (ls' := [(2, .int 255), (1, .int q1.1), (0, .ref 41)]) dX11_findMost_8 rfl (Nat.le_of_ble_eq_true rfl) rfl ?_
  exact z_pick [2, 1, 0] rfl (b_X11_findMost_L9 e hd q1.1 255 q1.2 (K := K) hf hK  h0)
set_option maxHeartbeats 4000000 in
set_option maxRecDepth 100000 in
theorem c_X11_findMost (d : Nat) (hd : 6 ≤ d)  (m : ej_M) {q : (Unit × ej_M)} (hf : f_X11_findMost  m = some q) : ej_Ct yX11_findMost cX11_findMost 5 none d [.ref 41] (ej_sh, m) ((none, (ej_sh, q.2)) : Option Value × ej_H) := by
  obtain ⟨e, rfl⟩ : ∃ e, d = e + 1 := ⟨d - 1, by omega⟩
  exact z_met (by decide +kernel) (Nat.le_of_ble_eq_true rfl) (b_X11_findMost e (by omega)  m (K := fun z => ((none, (ej_sh, q.2)) : Option Value × ej_H) = (none, (ej_sh, z.2))) hf rfl (fun _ h => h))
def f_X11_isNextSale (v1 : Int32) (v2 : Int32) (m : ej_M) : Option (Int32 × ej_M) :=
  (f_X11_standing m).bind fun q1 =>
  if ((q1.1 >>> (v2 &&& 31)) &&& 1) = 1 then
    if (v1 ||| (1 <<< (v2 &&& 31))) = v1 then
      some (0, q1.2)
    else
      (f_X11_isLawfulWithout (v1 ||| (1 <<< (v2 &&& 31))) q1.2).bind fun q2 =>
      if q2.1 = 0 then
        some (0, q2.2)
      else
        (oj_ld 0 q2.2 59 (v1 ||| (1 <<< (v2 &&& 31)))).bind fun w3 =>
        (oj_ld 0 q2.2 59 v1).bind fun w4 =>
        if (1 + w3) = w4 then
          some (1, q2.2)
        else
          some (0, q2.2)
  else
    some (0, q1.2)
set_option maxHeartbeats 4000000 in
set_option maxRecDepth 100000 in
theorem b_X11_isNextSale (e : Nat) (hd : 5 ≤ e) (v1 : Int32) (v2 : Int32) (m : ej_M) {x : (Int32 × ej_M)} {res : Option Value × ej_H} {K : (Int32 × ej_M) → Prop} (hf : f_X11_isNextSale v1 v2 m = some x) (hK : K x) (h0 : ∀ q : (Int32 × ej_M), K q → res = (some (Value.int q.1), (ej_sh, q.2))) : ej_Z cX11_isNextSale 4 (some .boolean) RX11 "isNextSale" (e + 1) 0 [(0, .ref 41), (1, .int v1), (2, .int v2)] [] (ej_sh, m) res := by
  unfold f_X11_isNextSale at hf
  refine z_iload_n (pc := 0) (i := 1) (j := 1) dX11_isNextSale_0 rfl rfl ?_
  refine z_iconst (pc := 1) dX11_isNextSale_1 ki_1 ?_
  refine z_iload_n (pc := 2) (i := 2) (j := 2) dX11_isNextSale_2 rfl rfl ?_
  refine z_ishl (pc := 3) dX11_isNextSale_3 ?_
  refine z_ior (pc := 4) dX11_isNextSale_4 ?_
  refine z_istore_n (pc := 5) (i := 3) (ls' := [(3, .int (v1 ||| (1 <<< (v2 &&& 31)))), (0, .ref 41), (1, .int v1), (2, .int v2)]) dX11_isNextSale_5 rfl (Nat.le_of_ble_eq_true rfl) rfl ?_
  refine z_aload_n (pc := 6) (i := 0) (j := 1) dX11_isNextSale_6 rfl rfl ?_
  obtain ⟨q1, hq1, hf⟩ := Option.bind_eq_some_iff.mp hf
  refine z_oVi (pc := 7) (as := []) (rest := []) dX11_isNextSale_7 lm_RX11_297 mf_X11_standing mi_X11_standing mv_X11_standing rc_41 rfl rfl (Nat.le_of_ble_eq_true rfl) (c_X11_standing e (by omega) m hq1) ?_
  refine z_iload_n (pc := 10) (i := 2) (j := 3) dX11_isNextSale_10 rfl rfl ?_
  refine z_ishr (pc := 11) dX11_isNextSale_11 ?_
  refine z_iconst (pc := 12) dX11_isNextSale_12 ki_1 ?_
  refine z_iand (pc := 13) dX11_isNextSale_13 ?_
  refine z_iconst (pc := 14) dX11_isNextSale_14 ki_1 ?_
  refine z_icmp_ne (pc := 15) (tgt := 52) dX11_isNextSale_15 (by decide) (fun hc => ?_) (fun hc => ?_)
  · rw [if_neg hc] at hf
    refine z_iconst (pc := 52) dX11_isNextSale_52 ki_0 ?_
    obtain rfl := Option.some.inj hf
    rw [h0 _ hK]
    exact z_iret dX11_isNextSale_53 rfl rfl
  · rw [if_pos hc] at hf
    refine z_iload_n (pc := 18) (i := 3) (j := 0) dX11_isNextSale_18 rfl rfl ?_
    refine z_iload_n (pc := 19) (i := 1) (j := 2) dX11_isNextSale_19 rfl rfl ?_
    refine z_icmp_eq (pc := 20) (tgt := 52) dX11_isNextSale_20 (by decide) (fun hc => ?_) (fun hc => ?_)
    · rw [if_pos hc] at hf
      refine z_iconst (pc := 52) dX11_isNextSale_52 ki_0 ?_
      obtain rfl := Option.some.inj hf
      rw [h0 _ hK]
      exact z_iret dX11_isNextSale_53 rfl rfl
    · rw [if_neg hc] at hf
      refine z_aload_n (pc := 23) (i := 0) (j := 1) dX11_isNextSale_23 rfl rfl ?_
      refine z_iload_n (pc := 24) (i := 3) (j := 0) dX11_isNextSale_24 rfl rfl ?_
      obtain ⟨q2, hq2, hf⟩ := Option.bind_eq_some_iff.mp hf
      refine z_oVi (pc := 25) (as := [.int (v1 ||| (1 <<< (v2 &&& 31)))]) (rest := []) dX11_isNextSale_25 lm_RX11_300 mf_X11_isLawfulWithout mi_X11_isLawfulWithout mv_X11_isLawfulWithout rc_41 rfl rfl (Nat.le_of_ble_eq_true rfl) (c_X11_isLawfulWithout e (by omega) (v1 ||| (1 <<< (v2 &&& 31))) q1.2 hq2) ?_
      refine z_if_eq (pc := 28) (tgt := 52) dX11_isNextSale_28 (by decide) (fun hc => ?_) (fun hc => ?_)
      · rw [if_pos hc] at hf
        refine z_iconst (pc := 52) dX11_isNextSale_52 ki_0 ?_
        obtain rfl := Option.some.inj hf
        rw [h0 _ hK]
        exact z_iret dX11_isNextSale_53 rfl rfl
      · rw [if_neg hc] at hf
        refine z_iconst (pc := 31) dX11_isNextSale_31 ki_1 ?_
        refine z_aload_n (pc := 32) (i := 0) (j := 1) dX11_isNextSale_32 rfl rfl ?_
        refine z_ogetR (pc := 33) dX11_isNextSale_33 lf_RX11_63 sh_41 rfl rfl rfl ?_
        refine z_iload_n (pc := 36) (i := 3) (j := 0) dX11_isNextSale_36 rfl rfl ?_
        obtain ⟨w3, hw3, hf⟩ := Option.bind_eq_some_iff.mp hf
        refine z_oiald (pc := 37) dX11_isNextSale_37 hw3 ?_
        refine z_iadd (pc := 38) dX11_isNextSale_38 ?_
        refine z_aload_n (pc := 39) (i := 0) (j := 1) dX11_isNextSale_39 rfl rfl ?_
        refine z_ogetR (pc := 40) dX11_isNextSale_40 lf_RX11_63 sh_41 rfl rfl rfl ?_
        refine z_iload_n (pc := 43) (i := 1) (j := 2) dX11_isNextSale_43 rfl rfl ?_
        obtain ⟨w4, hw4, hf⟩ := Option.bind_eq_some_iff.mp hf
        refine z_oiald (pc := 44) dX11_isNextSale_44 hw4 ?_
        refine z_icmp_ne (pc := 45) (tgt := 52) dX11_isNextSale_45 (by decide) (fun hc => ?_) (fun hc => ?_)
        · rw [if_neg hc] at hf
          refine z_iconst (pc := 52) dX11_isNextSale_52 ki_0 ?_
          obtain rfl := Option.some.inj hf
          rw [h0 _ hK]
          exact z_iret dX11_isNextSale_53 rfl rfl
        · rw [if_pos hc] at hf
          refine z_iconst (pc := 48) dX11_isNextSale_48 ki_1 ?_
          refine z_goto (pc := 49) (tgt := 53) dX11_isNextSale_49 (by decide) ?_
          obtain rfl := Option.some.inj hf
          rw [h0 _ hK]
          exact z_iret dX11_isNextSale_53 rfl rfl
set_option maxHeartbeats 4000000 in
set_option maxRecDepth 100000 in
theorem c_X11_isNextSale (d : Nat) (hd : 6 ≤ d) (v1 : Int32) (v2 : Int32) (m : ej_M) {q : (Int32 × ej_M)} (hf : f_X11_isNextSale v1 v2 m = some q) : ej_Ct yX11_isNextSale cX11_isNextSale 4 (some .boolean) d [.ref 41, .int v1, .int v2] (ej_sh, m) ((some (Value.int q.1), (ej_sh, q.2)) : Option Value × ej_H) := by
  obtain ⟨e, rfl⟩ : ∃ e, d = e + 1 := ⟨d - 1, by omega⟩
  exact z_met (by decide +kernel) (Nat.le_of_ble_eq_true rfl) (b_X11_isNextSale e (by omega) v1 v2 m (K := fun z => ((some (Value.int q.1), (ej_sh, q.2)) : Option Value × ej_H) = (some (Value.int z.1), (ej_sh, z.2))) hf rfl (fun _ h => h))
def f_X11_soldOn_L51b (v1 : Int32) (v2 : Int32) (v4 : Int32) (v3 : Int32) (m : ej_M) : Option ((Int32 × ej_M) ⊕ ((Int32 × Int32 × Int32 × ej_M) ⊕ (Int32 × ej_M))) :=
  (f_X11_isNextSale v2 v3 m).bind fun q1 =>
  if q1.1 = 0 then
    some (Sum.inl ((v3 + 1), q1.2))
  else
    some (Sum.inr (Sum.inl ((v2 ||| (1 <<< (v3 &&& 31))), v3, (v4 + 1), q1.2)))
set_option maxHeartbeats 4000000 in
set_option maxRecDepth 100000 in
theorem b_X11_soldOn_L51b (e : Nat) (hd : 6 ≤ e) (v1 : Int32) (v2 : Int32) (v4 : Int32) (v3 : Int32) (m : ej_M) {x : ((Int32 × ej_M) ⊕ ((Int32 × Int32 × Int32 × ej_M) ⊕ (Int32 × ej_M)))} {res : Option Value × ej_H} {K : ((Int32 × ej_M) ⊕ ((Int32 × Int32 × Int32 × ej_M) ⊕ (Int32 × ej_M))) → Prop} (hf : f_X11_soldOn_L51b v1 v2 v4 v3 m = some x) (hK : K x) (h1 : ∀ q : (Int32 × ej_M), K (Sum.inl q) → ej_Z cX11_soldOn 5 (some .int) RX11 "soldOn" (e + 1) 51 [(0, .ref 41), (1, .int v1), (2, .int v2), (3, .int q.1), (4, .int v4)] [] (ej_sh, q.2) res) (h2 : ∀ q : (Int32 × Int32 × Int32 × ej_M), K (Sum.inr (Sum.inl q)) → ej_Z cX11_soldOn 5 (some .int) RX11 "soldOn" (e + 1) 43 [(0, .ref 41), (1, .int v1), (2, .int q.1), (3, .int q.2.1), (4, .int q.2.2.1)] [] (ej_sh, q.2.2.2) res) (h0 : ∀ q : (Int32 × ej_M), K (Sum.inr (Sum.inr q)) → res = (some (Value.int q.1), (ej_sh, q.2))) : ej_Z cX11_soldOn 5 (some .int) RX11 "soldOn" (e + 1) 51 [(0, .ref 41), (1, .int v1), (2, .int v2), (3, .int v3), (4, .int v4)] [] (ej_sh, m) res := by
  unfold f_X11_soldOn_L51b at hf
  refine z_aload_n (pc := 51) (i := 0) (j := 0) dX11_soldOn_51 rfl rfl ?_
  refine z_iload_n (pc := 52) (i := 2) (j := 2) dX11_soldOn_52 rfl rfl ?_
  refine z_iload_n (pc := 53) (i := 3) (j := 3) dX11_soldOn_53 rfl rfl ?_
  obtain ⟨q1, hq1, hf⟩ := Option.bind_eq_some_iff.mp hf
  refine z_oVi (pc := 54) (as := [.int v2, .int v3]) (rest := []) dX11_soldOn_54 lm_RX11_306 mf_X11_isNextSale mi_X11_isNextSale mv_X11_isNextSale rc_41 rfl rfl (Nat.le_of_ble_eq_true rfl) (c_X11_isNextSale e (by omega) v2 v3 m hq1) ?_
  refine z_if_ne (pc := 57) (tgt := 66) dX11_soldOn_57 (by decide) (fun hc => ?_) (fun hc => ?_)
  · rw [if_neg hc] at hf
    refine z_iload_n (pc := 66) (i := 2) (j := 2) dX11_soldOn_66 rfl rfl ?_
    refine z_iconst (pc := 67) dX11_soldOn_67 ki_1 ?_
    refine z_iload_n (pc := 68) (i := 3) (j := 3) dX11_soldOn_68 rfl rfl ?_
    refine z_ishl (pc := 69) dX11_soldOn_69 ?_
    refine z_ior (pc := 70) dX11_soldOn_70 ?_
    refine z_istore_n (pc := 71) (i := 2) (ls' := [(2, .int (v2 ||| (1 <<< (v3 &&& 31)))), (0, .ref 41), (1, .int v1), (3, .int v3), (4, .int v4)]) dX11_soldOn_71 rfl (Nat.le_of_ble_eq_true rfl) rfl ?_
    refine z_iinc (pc := 72) (j := 4) (ls' := [(4, .int (v4 + 1)), (2, .int (v2 ||| (1 <<< (v3 &&& 31)))), (0, .ref 41), (1, .int v1), (3, .int v3)]) dX11_soldOn_72 rfl ki_1 (Nat.le_of_ble_eq_true rfl) rfl ?_
    refine z_goto (pc := 75) (tgt := 43) dX11_soldOn_75 (by decide) ?_
    obtain rfl := Option.some.inj hf
    exact z_pick (ls' := [(0, .ref 41), (1, .int v1), (2, .int (v2 ||| (1 <<< (v3 &&& 31)))), (3, .int v3), (4, .int (v4 + 1))]) [2, 3, 1, 4, 0] rfl (h2 ((v2 ||| (1 <<< (v3 &&& 31))), v3, (v4 + 1), q1.2) hK)
  · rw [if_pos hc] at hf
    refine z_iinc (pc := 60) (j := 3) (ls' := [(3, .int (v3 + 1)), (0, .ref 41), (1, .int v1), (2, .int v2), (4, .int v4)]) dX11_soldOn_60 rfl ki_1 (Nat.le_of_ble_eq_true rfl) rfl ?_
    refine z_goto (pc := 63) (tgt := 51) dX11_soldOn_63 (by decide) ?_
    obtain rfl := Option.some.inj hf
    exact z_pick (ls' := [(0, .ref 41), (1, .int v1), (2, .int v2), (3, .int (v3 + 1)), (4, .int v4)]) [1, 2, 3, 0, 4] rfl (h1 ((v3 + 1), q1.2) hK)
def f_X11_soldOn_L51 (v1 : Int32) (v2 : Int32) (v4 : Int32) (v3 : Int32) (m : ej_M) : Option ((Int32 × Int32 × Int32 × ej_M) ⊕ (Int32 × ej_M)) := oj_loop (fun q : (Int32 × ej_M) => f_X11_soldOn_L51b v1 v2 v4 q.1 q.2) oj_FU (v3, m)
set_option maxHeartbeats 4000000 in
set_option maxRecDepth 100000 in
theorem b_X11_soldOn_L51 (e : Nat) (hd : 6 ≤ e) (v1 : Int32) (v2 : Int32) (v4 : Int32) (v3 : Int32) (m : ej_M) {x : ((Int32 × Int32 × Int32 × ej_M) ⊕ (Int32 × ej_M))} {res : Option Value × ej_H} {K : ((Int32 × Int32 × Int32 × ej_M) ⊕ (Int32 × ej_M)) → Prop} (hf : f_X11_soldOn_L51 v1 v2 v4 v3 m = some x) (hK : K x) (h1 : ∀ q : (Int32 × Int32 × Int32 × ej_M), K (Sum.inl q) → ej_Z cX11_soldOn 5 (some .int) RX11 "soldOn" (e + 1) 43 [(0, .ref 41), (1, .int v1), (2, .int q.1), (3, .int q.2.1), (4, .int q.2.2.1)] [] (ej_sh, q.2.2.2) res) (h0 : ∀ q : (Int32 × ej_M), K (Sum.inr q) → res = (some (Value.int q.1), (ej_sh, q.2))) : ej_Z cX11_soldOn 5 (some .int) RX11 "soldOn" (e + 1) 51 [(0, .ref 41), (1, .int v1), (2, .int v2), (3, .int v3), (4, .int v4)] [] (ej_sh, m) res :=
  oj_loop_Z (body := fun q : (Int32 × ej_M) => f_X11_soldOn_L51b v1 v2 v4 q.1 q.2) (P := fun q : (Int32 × ej_M) => ej_Z cX11_soldOn 5 (some .int) RX11 "soldOn" (e + 1) 51 [(0, .ref 41), (1, .int v1), (2, .int v2), (3, .int q.1), (4, .int v4)] [] (ej_sh, q.2) res) (K := K) (fun s x hb hl hr => b_X11_soldOn_L51b e hd v1 v2 v4  s.1 s.2 (K := fun x => (∀ s' : (Int32 × ej_M), x = Sum.inl s' → ej_Z cX11_soldOn 5 (some .int) RX11 "soldOn" (e + 1) 51 [(0, .ref 41), (1, .int v1), (2, .int v2), (3, .int s'.1), (4, .int v4)] [] (ej_sh, s'.2) res) ∧ ∀ e, x = Sum.inr e → K e) hb ⟨hl, hr⟩ (fun q hq => hq.1 q rfl) (fun q hq => h1 q (hq.2 _ rfl)) (fun q hq => h0 q (hq.2 _ rfl))) oj_FU (v3, m) x hf hK
def f_X11_soldOn_L43b (v1 : Int32) (v2 : Int32) (v3 : Int32) (v4 : Int32) (m : ej_M) : Option ((Int32 × Int32 × Int32 × ej_M) ⊕ (Int32 × ej_M)) :=
  if v1 < v4 then
    some (Sum.inr (v3, m))
  else
    f_X11_soldOn_L51 v1 v2 v4 0 m
set_option maxHeartbeats 4000000 in
set_option maxRecDepth 100000 in
theorem b_X11_soldOn_L43b (e : Nat) (hd : 6 ≤ e) (v1 : Int32) (v2 : Int32) (v3 : Int32) (v4 : Int32) (m : ej_M) {x : ((Int32 × Int32 × Int32 × ej_M) ⊕ (Int32 × ej_M))} {res : Option Value × ej_H} {K : ((Int32 × Int32 × Int32 × ej_M) ⊕ (Int32 × ej_M)) → Prop} (hf : f_X11_soldOn_L43b v1 v2 v3 v4 m = some x) (hK : K x) (h1 : ∀ q : (Int32 × Int32 × Int32 × ej_M), K (Sum.inl q) → ej_Z cX11_soldOn 5 (some .int) RX11 "soldOn" (e + 1) 43 [(0, .ref 41), (1, .int v1), (2, .int q.1), (3, .int q.2.1), (4, .int q.2.2.1)] [] (ej_sh, q.2.2.2) res) (h0 : ∀ q : (Int32 × ej_M), K (Sum.inr q) → res = (some (Value.int q.1), (ej_sh, q.2))) : ej_Z cX11_soldOn 5 (some .int) RX11 "soldOn" (e + 1) 43 [(0, .ref 41), (1, .int v1), (2, .int v2), (3, .int v3), (4, .int v4)] [] (ej_sh, m) res := by
  unfold f_X11_soldOn_L43b at hf
  refine z_iload (pc := 43) (i := 4) (j := 4) dX11_soldOn_43 rfl ?_
  refine z_iload_n (pc := 45) (i := 1) (j := 1) dX11_soldOn_45 rfl rfl ?_
  refine z_icmp_gt (pc := 46) (tgt := 78) dX11_soldOn_46 (by decide) (fun hc => ?_) (fun hc => ?_)
  · rw [if_pos hc] at hf
    refine z_iload_n (pc := 78) (i := 3) (j := 3) dX11_soldOn_78 rfl rfl ?_
    obtain rfl := Option.some.inj hf
    rw [h0 _ hK]
    exact z_iret dX11_soldOn_79 rfl rfl
  · rw [if_neg hc] at hf
    refine z_iconst (pc := 49) dX11_soldOn_49 ki_0 ?_
    refine z_istore_n (pc := 50) (i := 3) (ls' := [(3, .int 0), (0, .ref 41), (1, .int v1), (2, .int v2), (4, .int v4)]) dX11_soldOn_50 rfl (Nat.le_of_ble_eq_true rfl) rfl ?_
    exact z_pick [1, 2, 3, 0, 4] rfl (b_X11_soldOn_L51 e hd v1 v2 v4 0 m (K := K) hf hK h1 h0)
def f_X11_soldOn_L43 (v1 : Int32) (v2 : Int32) (v3 : Int32) (v4 : Int32) (m : ej_M) : Option (Int32 × ej_M) := oj_loop (fun q : (Int32 × Int32 × Int32 × ej_M) => f_X11_soldOn_L43b v1 q.1 q.2.1 q.2.2.1 q.2.2.2) oj_FU (v2, v3, v4, m)
set_option maxHeartbeats 4000000 in
set_option maxRecDepth 100000 in
theorem b_X11_soldOn_L43 (e : Nat) (hd : 6 ≤ e) (v1 : Int32) (v2 : Int32) (v3 : Int32) (v4 : Int32) (m : ej_M) {x : (Int32 × ej_M)} {res : Option Value × ej_H} {K : (Int32 × ej_M) → Prop} (hf : f_X11_soldOn_L43 v1 v2 v3 v4 m = some x) (hK : K x) (h0 : ∀ q : (Int32 × ej_M), K q → res = (some (Value.int q.1), (ej_sh, q.2))) : ej_Z cX11_soldOn 5 (some .int) RX11 "soldOn" (e + 1) 43 [(0, .ref 41), (1, .int v1), (2, .int v2), (3, .int v3), (4, .int v4)] [] (ej_sh, m) res :=
  oj_loop_Z (body := fun q : (Int32 × Int32 × Int32 × ej_M) => f_X11_soldOn_L43b v1 q.1 q.2.1 q.2.2.1 q.2.2.2) (P := fun q : (Int32 × Int32 × Int32 × ej_M) => ej_Z cX11_soldOn 5 (some .int) RX11 "soldOn" (e + 1) 43 [(0, .ref 41), (1, .int v1), (2, .int q.1), (3, .int q.2.1), (4, .int q.2.2.1)] [] (ej_sh, q.2.2.2) res) (K := K) (fun s x hb hl hr => b_X11_soldOn_L43b e hd v1  s.1 s.2.1 s.2.2.1 s.2.2.2 (K := fun x => (∀ s' : (Int32 × Int32 × Int32 × ej_M), x = Sum.inl s' → ej_Z cX11_soldOn 5 (some .int) RX11 "soldOn" (e + 1) 43 [(0, .ref 41), (1, .int v1), (2, .int s'.1), (3, .int s'.2.1), (4, .int s'.2.2.1)] [] (ej_sh, s'.2.2.2) res) ∧ ∀ e, x = Sum.inr e → K e) hb ⟨hl, hr⟩ (fun q hq => hq.1 q rfl) (fun q hq => h0 q (hq.2 _ rfl))) oj_FU (v2, v3, v4, m) x hf hK
def f_X11_soldOn (v1 : Int32) (m : ej_M) : Option (Int32 × ej_M) :=
  if (-1) ≤ v1 then
    (f_X11_findMost m).bind fun q1 =>
    if 0 ≤ v1 then
      (oj_ld 0 q1.2 59 0).bind fun w2 =>
      if v1 < w2 then
        f_X11_soldOn_L43 v1 0 (-2) 0 q1.2
      else
        some ((-2), q1.2)
    else
      (oj_ld 0 q1.2 59 0).bind fun w3 =>
      some (w3, q1.2)
  else
    some ((-1), m)
set_option maxHeartbeats 4000000 in
set_option maxRecDepth 100000 in
theorem b_X11_soldOn (e : Nat) (hd : 6 ≤ e) (v1 : Int32) (m : ej_M) {x : (Int32 × ej_M)} {res : Option Value × ej_H} {K : (Int32 × ej_M) → Prop} (hf : f_X11_soldOn v1 m = some x) (hK : K x) (h0 : ∀ q : (Int32 × ej_M), K q → res = (some (Value.int q.1), (ej_sh, q.2))) : ej_Z cX11_soldOn 5 (some .int) RX11 "soldOn" (e + 1) 0 [(0, .ref 41), (1, .int v1)] [] (ej_sh, m) res := by
  unfold f_X11_soldOn at hf
  refine z_iload_n (pc := 0) (i := 1) (j := 1) dX11_soldOn_0 rfl rfl ?_
  refine z_iconst (pc := 1) dX11_soldOn_1 ki_n1 ?_
  refine z_icmp_ge (pc := 2) (tgt := 7) dX11_soldOn_2 (by decide) (fun hc => ?_) (fun hc => ?_)
  · rw [if_pos hc] at hf
    refine z_aload_n (pc := 7) (i := 0) (j := 0) dX11_soldOn_7 rfl rfl ?_
    obtain ⟨q1, hq1, hf⟩ := Option.bind_eq_some_iff.mp hf
    refine z_oVv (pc := 8) (as := []) (rest := []) dX11_soldOn_8 lm_RX11_303 mf_X11_findMost mi_X11_findMost mv_X11_findMost rc_41 rfl rfl (Nat.le_of_ble_eq_true rfl) (c_X11_findMost e (by omega) m hq1) ?_
    refine z_iload_n (pc := 11) (i := 1) (j := 1) dX11_soldOn_11 rfl rfl ?_
    refine z_if_ge (pc := 12) (tgt := 22) dX11_soldOn_12 (by decide) (fun hc => ?_) (fun hc => ?_)
    · rw [if_pos hc] at hf
      refine z_iload_n (pc := 22) (i := 1) (j := 1) dX11_soldOn_22 rfl rfl ?_
      refine z_aload_n (pc := 23) (i := 0) (j := 0) dX11_soldOn_23 rfl rfl ?_
      refine z_ogetR (pc := 24) dX11_soldOn_24 lf_RX11_63 sh_41 rfl rfl rfl ?_
      refine z_iconst (pc := 27) dX11_soldOn_27 ki_0 ?_
      obtain ⟨w2, hw2, hf⟩ := Option.bind_eq_some_iff.mp hf
      refine z_oiald (pc := 28) dX11_soldOn_28 hw2 ?_
      refine z_icmp_lt (pc := 29) (tgt := 35) dX11_soldOn_29 (by decide) (fun hc => ?_) (fun hc => ?_)
      · rw [if_pos hc] at hf
        refine z_iconst (pc := 35) dX11_soldOn_35 ki_0 ?_
        refine z_istore_n (pc := 36) (i := 2) (ls' := [(2, .int 0), (0, .ref 41), (1, .int v1)]) dX11_soldOn_36 rfl (Nat.le_of_ble_eq_true rfl) rfl ?_
        refine z_bipush (pc := 37) dX11_soldOn_37 kb_n2 ?_
        refine z_istore_n (pc := 39) (i := 3) (ls' := [(3, .int (-2)), (2, .int 0), (0, .ref 41), (1, .int v1)]) dX11_soldOn_39 rfl (Nat.le_of_ble_eq_true rfl) rfl ?_
        refine z_iconst (pc := 40) dX11_soldOn_40 ki_0 ?_
        refine z_istore (pc := 41) (i := 4) (ls' := [(4, .int 0), (3, .int (-2)), (2, .int 0), (0, .ref 41), (1, .int v1)]) dX11_soldOn_41 (Nat.le_of_ble_eq_true rfl) rfl ?_
        exact z_pick [3, 4, 2, 1, 0] rfl (b_X11_soldOn_L43 e hd v1 0 (-2) 0 q1.2 (K := K) hf hK  h0)
      · rw [if_neg hc] at hf
        refine z_bipush (pc := 32) dX11_soldOn_32 kb_n2 ?_
        obtain rfl := Option.some.inj hf
        rw [h0 _ hK]
        exact z_iret dX11_soldOn_34 rfl rfl
    · rw [if_neg hc] at hf
      refine z_aload_n (pc := 15) (i := 0) (j := 0) dX11_soldOn_15 rfl rfl ?_
      refine z_ogetR (pc := 16) dX11_soldOn_16 lf_RX11_63 sh_41 rfl rfl rfl ?_
      refine z_iconst (pc := 19) dX11_soldOn_19 ki_0 ?_
      obtain ⟨w3, hw3, hf⟩ := Option.bind_eq_some_iff.mp hf
      refine z_oiald (pc := 20) dX11_soldOn_20 hw3 ?_
      obtain rfl := Option.some.inj hf
      rw [h0 _ hK]
      exact z_iret dX11_soldOn_21 rfl rfl
  · rw [if_neg hc] at hf
    refine z_iconst (pc := 5) dX11_soldOn_5 ki_n1 ?_
    obtain rfl := Option.some.inj hf
    rw [h0 _ hK]
    exact z_iret dX11_soldOn_6 rfl rfl
set_option maxHeartbeats 4000000 in
set_option maxRecDepth 100000 in
theorem c_X11_soldOn (d : Nat) (hd : 7 ≤ d) (v1 : Int32) (m : ej_M) {q : (Int32 × ej_M)} (hf : f_X11_soldOn v1 m = some q) : ej_Ct yX11_soldOn cX11_soldOn 5 (some .int) d [.ref 41, .int v1] (ej_sh, m) ((some (Value.int q.1), (ej_sh, q.2)) : Option Value × ej_H) := by
  obtain ⟨e, rfl⟩ : ∃ e, d = e + 1 := ⟨d - 1, by omega⟩
  exact z_met (by decide +kernel) (Nat.le_of_ble_eq_true rfl) (b_X11_soldOn e (by omega) v1 m (K := fun z => ((some (Value.int q.1), (ej_sh, q.2)) : Option Value × ej_H) = (some (Value.int z.1), (ej_sh, z.2))) hf rfl (fun _ h => h))
def f_X10_worth (v1 : Int32) (v2 : Int32) (m : ej_M) : Option (Int32 × ej_M) :=
  (f_X4_isSet v1 m).bind fun q1 =>
  if q1.1 = 0 then
    some ((-2000000000), q1.2)
  else
    (f_X4_has v2 q1.2).bind fun q2 =>
    if q2.1 = 0 then
      some ((-2000000000), q2.2)
    else
      if ((v1 >>> (v2 &&& 31)) &&& 1) = 0 then
        some ((-2000000000), q2.2)
      else
        (f_X3_fitAll q2.2).bind fun q3 =>
        (f_X3_answer v1 (-1) q3.2).bind fun q4 =>
        (f_X3_answer (v1 &&& ((1 <<< (v2 &&& 31)) ^^^ (-1))) (-1) q4.2).bind fun q5 =>
        some ((q4.1 - q5.1), q5.2)
set_option maxHeartbeats 4000000 in
set_option maxRecDepth 100000 in
theorem b_X10_worth (e : Nat) (hd : 126 ≤ e) (v1 : Int32) (v2 : Int32) (m : ej_M) {x : (Int32 × ej_M)} {res : Option Value × ej_H} {K : (Int32 × ej_M) → Prop} (hf : f_X10_worth v1 v2 m = some x) (hK : K x) (h0 : ∀ q : (Int32 × ej_M), K q → res = (some (Value.int q.1), (ej_sh, q.2))) : ej_Z cX10_worth 4 (some .int) RX10 "worth" (e + 1) 0 [(0, .ref 0), (1, .int v1), (2, .int v2)] [] (ej_sh, m) res := by
  unfold f_X10_worth at hf
  refine z_aload_n (pc := 0) (i := 0) (j := 0) dX10_worth_0 rfl rfl ?_
  refine z_ogetR (pc := 1) dX10_worth_1 lf_RX10_21 sh_0 rfl rfl rfl ?_
  refine z_iload_n (pc := 4) (i := 1) (j := 1) dX10_worth_4 rfl rfl ?_
  obtain ⟨q1, hq1, hf⟩ := Option.bind_eq_some_iff.mp hf
  refine z_oVi (pc := 5) (as := [.int v1]) (rest := []) dX10_worth_5 lm_RX10_183 mf_X4_isSet mi_X4_isSet mv_X4_isSet rc_6 rfl rfl (Nat.le_of_ble_eq_true rfl) (c_X4_isSet e (by omega) v1 m hq1) ?_
  refine z_if_eq (pc := 8) (tgt := 30) dX10_worth_8 (by decide) (fun hc => ?_) (fun hc => ?_)
  · rw [if_pos hc] at hf
    refine z_ldc (pc := 30) dX10_worth_30 lc_RX10_225 ?_
    obtain rfl := Option.some.inj hf
    rw [h0 _ hK]
    exact z_iret dX10_worth_32 rfl rfl
  · rw [if_neg hc] at hf
    refine z_aload_n (pc := 11) (i := 0) (j := 0) dX10_worth_11 rfl rfl ?_
    refine z_ogetR (pc := 12) dX10_worth_12 lf_RX10_21 sh_0 rfl rfl rfl ?_
    refine z_iload_n (pc := 15) (i := 2) (j := 2) dX10_worth_15 rfl rfl ?_
    obtain ⟨q2, hq2, hf⟩ := Option.bind_eq_some_iff.mp hf
    refine z_oVi (pc := 16) (as := [.int v2]) (rest := []) dX10_worth_16 lm_RX10_101 mf_X4_has mi_X4_has mv_X4_has rc_6 rfl rfl (Nat.le_of_ble_eq_true rfl) (c_X4_has e (by omega) v2 q1.2 hq2) ?_
    refine z_if_eq (pc := 19) (tgt := 30) dX10_worth_19 (by decide) (fun hc => ?_) (fun hc => ?_)
    · rw [if_pos hc] at hf
      refine z_ldc (pc := 30) dX10_worth_30 lc_RX10_225 ?_
      obtain rfl := Option.some.inj hf
      rw [h0 _ hK]
      exact z_iret dX10_worth_32 rfl rfl
    · rw [if_neg hc] at hf
      refine z_iload_n (pc := 22) (i := 1) (j := 1) dX10_worth_22 rfl rfl ?_
      refine z_iload_n (pc := 23) (i := 2) (j := 2) dX10_worth_23 rfl rfl ?_
      refine z_ishr (pc := 24) dX10_worth_24 ?_
      refine z_iconst (pc := 25) dX10_worth_25 ki_1 ?_
      refine z_iand (pc := 26) dX10_worth_26 ?_
      refine z_if_ne (pc := 27) (tgt := 33) dX10_worth_27 (by decide) (fun hc => ?_) (fun hc => ?_)
      · rw [if_neg hc] at hf
        refine z_aload_n (pc := 33) (i := 0) (j := 0) dX10_worth_33 rfl rfl ?_
        refine z_ogetR (pc := 34) dX10_worth_34 lf_RX10_44 sh_0 rfl rfl rfl ?_
        obtain ⟨q3, hq3, hf⟩ := Option.bind_eq_some_iff.mp hf
        refine z_oVv (pc := 37) (as := []) (rest := []) dX10_worth_37 lm_RX10_191 mf_X3_fitAll mi_X3_fitAll mv_X3_fitAll rc_18 rfl rfl (Nat.le_of_ble_eq_true rfl) (c_X3_fitAll e (by omega) q2.2 hq3) ?_
        refine z_aload_n (pc := 40) (i := 0) (j := 0) dX10_worth_40 rfl rfl ?_
        refine z_ogetR (pc := 41) dX10_worth_41 lf_RX10_44 sh_0 rfl rfl rfl ?_
        refine z_iload_n (pc := 44) (i := 1) (j := 1) dX10_worth_44 rfl rfl ?_
        refine z_iconst (pc := 45) dX10_worth_45 ki_n1 ?_
        obtain ⟨q4, hq4, hf⟩ := Option.bind_eq_some_iff.mp hf
        refine z_oVi (pc := 46) (as := [.int v1, .int (-1)]) (rest := []) dX10_worth_46 lm_RX10_194 mf_X3_answer mi_X3_answer mv_X3_answer rc_18 rfl rfl (Nat.le_of_ble_eq_true rfl) (c_X3_answer e (by omega) v1 (-1) q3.2 hq4) ?_
        refine z_istore_n (pc := 49) (i := 3) (ls' := [(3, .int q4.1), (0, .ref 0), (1, .int v1), (2, .int v2)]) dX10_worth_49 rfl (Nat.le_of_ble_eq_true rfl) rfl ?_
        refine z_iload_n (pc := 50) (i := 3) (j := 0) dX10_worth_50 rfl rfl ?_
        refine z_aload_n (pc := 51) (i := 0) (j := 1) dX10_worth_51 rfl rfl ?_
        refine z_ogetR (pc := 52) dX10_worth_52 lf_RX10_44 sh_0 rfl rfl rfl ?_
        refine z_iload_n (pc := 55) (i := 1) (j := 2) dX10_worth_55 rfl rfl ?_
        refine z_iconst (pc := 56) dX10_worth_56 ki_1 ?_
        refine z_iload_n (pc := 57) (i := 2) (j := 3) dX10_worth_57 rfl rfl ?_
        refine z_ishl (pc := 58) dX10_worth_58 ?_
        refine z_iconst (pc := 59) dX10_worth_59 ki_n1 ?_
        refine z_ixor (pc := 60) dX10_worth_60 ?_
        refine z_iand (pc := 61) dX10_worth_61 ?_
        refine z_iconst (pc := 62) dX10_worth_62 ki_n1 ?_
        obtain ⟨q5, hq5, hf⟩ := Option.bind_eq_some_iff.mp hf
        refine z_oVi (pc := 63) (as := [.int (v1 &&& ((1 <<< (v2 &&& 31)) ^^^ (-1))), .int (-1)]) (rest := [.int q4.1]) dX10_worth_63 lm_RX10_194 mf_X3_answer mi_X3_answer mv_X3_answer rc_18 rfl rfl (Nat.le_of_ble_eq_true rfl) (c_X3_answer e (by omega) (v1 &&& ((1 <<< (v2 &&& 31)) ^^^ (-1))) (-1) q4.2 hq5) ?_
        refine z_isub (pc := 66) dX10_worth_66 ?_
        obtain rfl := Option.some.inj hf
        rw [h0 _ hK]
        exact z_iret dX10_worth_67 rfl rfl
      · rw [if_pos hc] at hf
        refine z_ldc (pc := 30) dX10_worth_30 lc_RX10_225 ?_
        obtain rfl := Option.some.inj hf
        rw [h0 _ hK]
        exact z_iret dX10_worth_32 rfl rfl
set_option maxHeartbeats 4000000 in
set_option maxRecDepth 100000 in
theorem c_X10_worth (d : Nat) (hd : 127 ≤ d) (v1 : Int32) (v2 : Int32) (m : ej_M) {q : (Int32 × ej_M)} (hf : f_X10_worth v1 v2 m = some q) : ej_Ct yX10_worth cX10_worth 4 (some .int) d [.ref 0, .int v1, .int v2] (ej_sh, m) ((some (Value.int q.1), (ej_sh, q.2)) : Option Value × ej_H) := by
  obtain ⟨e, rfl⟩ : ∃ e, d = e + 1 := ⟨d - 1, by omega⟩
  exact z_met (by decide +kernel) (Nat.le_of_ble_eq_true rfl) (b_X10_worth e (by omega) v1 v2 m (K := fun z => ((some (Value.int q.1), (ej_sh, q.2)) : Option Value × ej_H) = (some (Value.int z.1), (ej_sh, z.2))) hf rfl (fun _ h => h))
def f_X11_worth (v1 : Int32) (v2 : Int32) (m : ej_M) : Option (Int32 × ej_M) :=
  (f_X11_isSet v1 m).bind fun q1 =>
  if q1.1 = 0 then
    some ((-2000000000), q1.2)
  else
    (f_X11_isStone v2 q1.2).bind fun q2 =>
    if q2.1 = 0 then
      some ((-2000000000), q2.2)
    else
      if ((v1 >>> (v2 &&& 31)) &&& 1) = 0 then
        some ((-2000000000), q2.2)
      else
        (f_X11_orders v1 (-1) q2.2).bind fun q3 =>
        (f_X11_orders (v1 &&& ((1 <<< (v2 &&& 31)) ^^^ (-1))) (-1) q3.2).bind fun q4 =>
        some ((q3.1 - q4.1), q4.2)
set_option maxHeartbeats 4000000 in
set_option maxRecDepth 100000 in
theorem b_X11_worth (e : Nat) (hd : 126 ≤ e) (v1 : Int32) (v2 : Int32) (m : ej_M) {x : (Int32 × ej_M)} {res : Option Value × ej_H} {K : (Int32 × ej_M) → Prop} (hf : f_X11_worth v1 v2 m = some x) (hK : K x) (h0 : ∀ q : (Int32 × ej_M), K q → res = (some (Value.int q.1), (ej_sh, q.2))) : ej_Z cX11_worth 4 (some .int) RX11 "worth" (e + 1) 0 [(0, .ref 41), (1, .int v1), (2, .int v2)] [] (ej_sh, m) res := by
  unfold f_X11_worth at hf
  refine z_aload_n (pc := 0) (i := 0) (j := 0) dX11_worth_0 rfl rfl ?_
  refine z_iload_n (pc := 1) (i := 1) (j := 1) dX11_worth_1 rfl rfl ?_
  obtain ⟨q1, hq1, hf⟩ := Option.bind_eq_some_iff.mp hf
  refine z_oVi (pc := 2) (as := [.int v1]) (rest := []) dX11_worth_2 lm_RX11_276 mf_X11_isSet mi_X11_isSet mv_X11_isSet rc_41 rfl rfl (Nat.le_of_ble_eq_true rfl) (c_X11_isSet e (by omega) v1 m hq1) ?_
  refine z_if_eq (pc := 5) (tgt := 24) dX11_worth_5 (by decide) (fun hc => ?_) (fun hc => ?_)
  · rw [if_pos hc] at hf
    refine z_ldcw (pc := 24) dX11_worth_24 lc_RX11_309 ?_
    obtain rfl := Option.some.inj hf
    rw [h0 _ hK]
    exact z_iret dX11_worth_27 rfl rfl
  · rw [if_neg hc] at hf
    refine z_aload_n (pc := 8) (i := 0) (j := 0) dX11_worth_8 rfl rfl ?_
    refine z_iload_n (pc := 9) (i := 2) (j := 2) dX11_worth_9 rfl rfl ?_
    obtain ⟨q2, hq2, hf⟩ := Option.bind_eq_some_iff.mp hf
    refine z_oVi (pc := 10) (as := [.int v2]) (rest := []) dX11_worth_10 lm_RX11_136 mf_X11_isStone mi_X11_isStone mv_X11_isStone rc_41 rfl rfl (Nat.le_of_ble_eq_true rfl) (c_X11_isStone e (by omega) v2 q1.2 hq2) ?_
    refine z_if_eq (pc := 13) (tgt := 24) dX11_worth_13 (by decide) (fun hc => ?_) (fun hc => ?_)
    · rw [if_pos hc] at hf
      refine z_ldcw (pc := 24) dX11_worth_24 lc_RX11_309 ?_
      obtain rfl := Option.some.inj hf
      rw [h0 _ hK]
      exact z_iret dX11_worth_27 rfl rfl
    · rw [if_neg hc] at hf
      refine z_iload_n (pc := 16) (i := 1) (j := 1) dX11_worth_16 rfl rfl ?_
      refine z_iload_n (pc := 17) (i := 2) (j := 2) dX11_worth_17 rfl rfl ?_
      refine z_ishr (pc := 18) dX11_worth_18 ?_
      refine z_iconst (pc := 19) dX11_worth_19 ki_1 ?_
      refine z_iand (pc := 20) dX11_worth_20 ?_
      refine z_if_ne (pc := 21) (tgt := 28) dX11_worth_21 (by decide) (fun hc => ?_) (fun hc => ?_)
      · rw [if_neg hc] at hf
        refine z_aload_n (pc := 28) (i := 0) (j := 0) dX11_worth_28 rfl rfl ?_
        refine z_iload_n (pc := 29) (i := 1) (j := 1) dX11_worth_29 rfl rfl ?_
        refine z_iconst (pc := 30) dX11_worth_30 ki_n1 ?_
        obtain ⟨q3, hq3, hf⟩ := Option.bind_eq_some_iff.mp hf
        refine z_oVi (pc := 31) (as := [.int v1, .int (-1)]) (rest := []) dX11_worth_31 lm_RX11_279 mf_X11_orders mi_X11_orders mv_X11_orders rc_41 rfl rfl (Nat.le_of_ble_eq_true rfl) (c_X11_orders e (by omega) v1 (-1) q2.2 hq3) ?_
        refine z_istore_n (pc := 34) (i := 3) (ls' := [(3, .int q3.1), (0, .ref 41), (1, .int v1), (2, .int v2)]) dX11_worth_34 rfl (Nat.le_of_ble_eq_true rfl) rfl ?_
        refine z_iload_n (pc := 35) (i := 3) (j := 0) dX11_worth_35 rfl rfl ?_
        refine z_aload_n (pc := 36) (i := 0) (j := 1) dX11_worth_36 rfl rfl ?_
        refine z_iload_n (pc := 37) (i := 1) (j := 2) dX11_worth_37 rfl rfl ?_
        refine z_iconst (pc := 38) dX11_worth_38 ki_1 ?_
        refine z_iload_n (pc := 39) (i := 2) (j := 3) dX11_worth_39 rfl rfl ?_
        refine z_ishl (pc := 40) dX11_worth_40 ?_
        refine z_iconst (pc := 41) dX11_worth_41 ki_n1 ?_
        refine z_ixor (pc := 42) dX11_worth_42 ?_
        refine z_iand (pc := 43) dX11_worth_43 ?_
        refine z_iconst (pc := 44) dX11_worth_44 ki_n1 ?_
        obtain ⟨q4, hq4, hf⟩ := Option.bind_eq_some_iff.mp hf
        refine z_oVi (pc := 45) (as := [.int (v1 &&& ((1 <<< (v2 &&& 31)) ^^^ (-1))), .int (-1)]) (rest := [.int q3.1]) dX11_worth_45 lm_RX11_279 mf_X11_orders mi_X11_orders mv_X11_orders rc_41 rfl rfl (Nat.le_of_ble_eq_true rfl) (c_X11_orders e (by omega) (v1 &&& ((1 <<< (v2 &&& 31)) ^^^ (-1))) (-1) q3.2 hq4) ?_
        refine z_isub (pc := 48) dX11_worth_48 ?_
        obtain rfl := Option.some.inj hf
        rw [h0 _ hK]
        exact z_iret dX11_worth_49 rfl rfl
      · rw [if_pos hc] at hf
        refine z_ldcw (pc := 24) dX11_worth_24 lc_RX11_309 ?_
        obtain rfl := Option.some.inj hf
        rw [h0 _ hK]
        exact z_iret dX11_worth_27 rfl rfl
set_option maxHeartbeats 4000000 in
set_option maxRecDepth 100000 in
theorem c_X11_worth (d : Nat) (hd : 127 ≤ d) (v1 : Int32) (v2 : Int32) (m : ej_M) {q : (Int32 × ej_M)} (hf : f_X11_worth v1 v2 m = some q) : ej_Ct yX11_worth cX11_worth 4 (some .int) d [.ref 41, .int v1, .int v2] (ej_sh, m) ((some (Value.int q.1), (ej_sh, q.2)) : Option Value × ej_H) := by
  obtain ⟨e, rfl⟩ : ∃ e, d = e + 1 := ⟨d - 1, by omega⟩
  exact z_met (by decide +kernel) (Nat.le_of_ble_eq_true rfl) (b_X11_worth e (by omega) v1 v2 m (K := fun z => ((some (Value.int q.1), (ej_sh, q.2)) : Option Value × ej_H) = (some (Value.int z.1), (ej_sh, z.2))) hf rfl (fun _ h => h))
def f_X9_rank_L17b (v0 : Nat) (v1 : Int32) (v2 : Int32) (v3 : Int32) (v4 : Int32) (v5 : Int32) (m : ej_M) : Option ((Int32 × Int32 × ej_M) ⊕ ((Int32 × Int32 × ej_M) ⊕ (Int32 × ej_M))) :=
  if v1 ≤ v5 then
    some (Sum.inr (Sum.inl (((v2 * (v1 - v3)) + v4), (v3 + 1), m)))
  else
    (f_X10_at v0 v5 m).bind fun q1 =>
    (f_X10_at v0 v3 q1.2).bind fun q2 =>
    if q2.1 ≤ q1.1 then
      some (Sum.inl (v4, (v5 + 1), q2.2))
    else
      some (Sum.inl ((v4 + 1), (v5 + 1), q2.2))
set_option maxHeartbeats 4000000 in
set_option maxRecDepth 100000 in
theorem b_X9_rank_L17b (e : Nat) (hd : 0 ≤ e) (v0 : Nat) (v1 : Int32) (v2 : Int32) (v3 : Int32) (v4 : Int32) (v5 : Int32) (m : ej_M) {x : ((Int32 × Int32 × ej_M) ⊕ ((Int32 × Int32 × ej_M) ⊕ (Int32 × ej_M)))} {res : Option Value × ej_H} {K : ((Int32 × Int32 × ej_M) ⊕ ((Int32 × Int32 × ej_M) ⊕ (Int32 × ej_M))) → Prop} (hf : f_X9_rank_L17b v0 v1 v2 v3 v4 v5 m = some x) (hK : K x) (h1 : ∀ q : (Int32 × Int32 × ej_M), K (Sum.inl q) → ej_Z cX9_rank 6 (some .int) RX9 "rank" (e + 1) 17 [(0, .ref v0), (1, .int v1), (2, .int v2), (3, .int v3), (4, .int q.1), (5, .int q.2.1)] [] (ej_sh, q.2.2) res) (h2 : ∀ q : (Int32 × Int32 × ej_M), K (Sum.inr (Sum.inl q)) → ej_Z cX9_rank 6 (some .int) RX9 "rank" (e + 1) 4 [(0, .ref v0), (1, .int v1), (2, .int q.1), (3, .int q.2.1)] [] (ej_sh, q.2.2) res) (h0 : ∀ q : (Int32 × ej_M), K (Sum.inr (Sum.inr q)) → res = (some (Value.int q.1), (ej_sh, q.2))) : ej_Z cX9_rank 6 (some .int) RX9 "rank" (e + 1) 17 [(0, .ref v0), (1, .int v1), (2, .int v2), (3, .int v3), (4, .int v4), (5, .int v5)] [] (ej_sh, m) res := by
  unfold f_X9_rank_L17b at hf
  refine z_iload (pc := 17) (i := 5) (j := 5) dX9_rank_17 rfl ?_
  refine z_iload_n (pc := 19) (i := 1) (j := 1) dX9_rank_19 rfl rfl ?_
  refine z_icmp_ge (pc := 20) (tgt := 46) dX9_rank_20 (by decide) (fun hc => ?_) (fun hc => ?_)
  · rw [if_pos hc] at hf
    refine z_iload_n (pc := 46) (i := 2) (j := 2) dX9_rank_46 rfl rfl ?_
    refine z_iload_n (pc := 47) (i := 1) (j := 1) dX9_rank_47 rfl rfl ?_
    refine z_iload_n (pc := 48) (i := 3) (j := 3) dX9_rank_48 rfl rfl ?_
    refine z_isub (pc := 49) dX9_rank_49 ?_
    refine z_imul (pc := 50) dX9_rank_50 ?_
    refine z_iload (pc := 51) (i := 4) (j := 4) dX9_rank_51 rfl ?_
    refine z_iadd (pc := 53) dX9_rank_53 ?_
    refine z_istore_n (pc := 54) (i := 2) (ls' := [(2, .int ((v2 * (v1 - v3)) + v4)), (0, .ref v0), (1, .int v1), (3, .int v3), (4, .int v4), (5, .int v5)]) dX9_rank_54 rfl (Nat.le_of_ble_eq_true rfl) rfl ?_
    refine z_iinc (pc := 55) (j := 3) (ls' := [(3, .int (v3 + 1)), (2, .int ((v2 * (v1 - v3)) + v4)), (0, .ref v0), (1, .int v1), (4, .int v4), (5, .int v5)]) dX9_rank_55 rfl ki_1 (Nat.le_of_ble_eq_true rfl) rfl ?_
    refine z_goto (pc := 58) (tgt := 4) dX9_rank_58 (by decide) ?_
    obtain rfl := Option.some.inj hf
    exact z_pick (ls' := [(0, .ref v0), (1, .int v1), (2, .int ((v2 * (v1 - v3)) + v4)), (3, .int (v3 + 1))]) [2, 3, 1, 0] rfl (h2 (((v2 * (v1 - v3)) + v4), (v3 + 1), m) hK)
  · rw [if_neg hc] at hf
    refine z_aload_n (pc := 23) (i := 0) (j := 0) dX9_rank_23 rfl rfl ?_
    refine z_iload (pc := 24) (i := 5) (j := 5) dX9_rank_24 rfl ?_
    obtain ⟨q1, hq1, hf⟩ := Option.bind_eq_some_iff.mp hf
    refine z_oSi (pc := 26) (as := [.ref v0, .int v5]) (rest := []) dX9_rank_26 lm_RX9_77 mf_X10_at ms_X10_at rfl rfl (Nat.le_of_ble_eq_true rfl) (c_X10_at e (by omega) v0 v5 m hq1) ?_
    refine z_aload_n (pc := 29) (i := 0) (j := 0) dX9_rank_29 rfl rfl ?_
    refine z_iload_n (pc := 30) (i := 3) (j := 3) dX9_rank_30 rfl rfl ?_
    obtain ⟨q2, hq2, hf⟩ := Option.bind_eq_some_iff.mp hf
    refine z_oSi (pc := 31) (as := [.ref v0, .int v3]) (rest := [.int q1.1]) dX9_rank_31 lm_RX9_77 mf_X10_at ms_X10_at rfl rfl (Nat.le_of_ble_eq_true rfl) (c_X10_at e (by omega) v0 v3 q1.2 hq2) ?_
    refine z_icmp_ge (pc := 34) (tgt := 40) dX9_rank_34 (by decide) (fun hc => ?_) (fun hc => ?_)
    · rw [if_pos hc] at hf
      refine z_iinc (pc := 40) (j := 5) (ls' := [(5, .int (v5 + 1)), (0, .ref v0), (1, .int v1), (2, .int v2), (3, .int v3), (4, .int v4)]) dX9_rank_40 rfl ki_1 (Nat.le_of_ble_eq_true rfl) rfl ?_
      refine z_goto (pc := 43) (tgt := 17) dX9_rank_43 (by decide) ?_
      obtain rfl := Option.some.inj hf
      exact z_pick (ls' := [(0, .ref v0), (1, .int v1), (2, .int v2), (3, .int v3), (4, .int v4), (5, .int (v5 + 1))]) [1, 2, 3, 4, 5, 0] rfl (h1 (v4, (v5 + 1), q2.2) hK)
    · rw [if_neg hc] at hf
      refine z_iinc (pc := 37) (j := 4) (ls' := [(4, .int (v4 + 1)), (0, .ref v0), (1, .int v1), (2, .int v2), (3, .int v3), (5, .int v5)]) dX9_rank_37 rfl ki_1 (Nat.le_of_ble_eq_true rfl) rfl ?_
      refine z_iinc (pc := 40) (j := 5) (ls' := [(5, .int (v5 + 1)), (4, .int (v4 + 1)), (0, .ref v0), (1, .int v1), (2, .int v2), (3, .int v3)]) dX9_rank_40 rfl ki_1 (Nat.le_of_ble_eq_true rfl) rfl ?_
      refine z_goto (pc := 43) (tgt := 17) dX9_rank_43 (by decide) ?_
      obtain rfl := Option.some.inj hf
      exact z_pick (ls' := [(0, .ref v0), (1, .int v1), (2, .int v2), (3, .int v3), (4, .int (v4 + 1)), (5, .int (v5 + 1))]) [2, 3, 4, 5, 1, 0] rfl (h1 ((v4 + 1), (v5 + 1), q2.2) hK)
def f_X9_rank_L17 (v0 : Nat) (v1 : Int32) (v2 : Int32) (v3 : Int32) (v4 : Int32) (v5 : Int32) (m : ej_M) : Option ((Int32 × Int32 × ej_M) ⊕ (Int32 × ej_M)) := oj_loop (fun q : (Int32 × Int32 × ej_M) => f_X9_rank_L17b v0 v1 v2 v3 q.1 q.2.1 q.2.2) oj_FU (v4, v5, m)
set_option maxHeartbeats 4000000 in
set_option maxRecDepth 100000 in
theorem b_X9_rank_L17 (e : Nat) (hd : 0 ≤ e) (v0 : Nat) (v1 : Int32) (v2 : Int32) (v3 : Int32) (v4 : Int32) (v5 : Int32) (m : ej_M) {x : ((Int32 × Int32 × ej_M) ⊕ (Int32 × ej_M))} {res : Option Value × ej_H} {K : ((Int32 × Int32 × ej_M) ⊕ (Int32 × ej_M)) → Prop} (hf : f_X9_rank_L17 v0 v1 v2 v3 v4 v5 m = some x) (hK : K x) (h1 : ∀ q : (Int32 × Int32 × ej_M), K (Sum.inl q) → ej_Z cX9_rank 6 (some .int) RX9 "rank" (e + 1) 4 [(0, .ref v0), (1, .int v1), (2, .int q.1), (3, .int q.2.1)] [] (ej_sh, q.2.2) res) (h0 : ∀ q : (Int32 × ej_M), K (Sum.inr q) → res = (some (Value.int q.1), (ej_sh, q.2))) : ej_Z cX9_rank 6 (some .int) RX9 "rank" (e + 1) 17 [(0, .ref v0), (1, .int v1), (2, .int v2), (3, .int v3), (4, .int v4), (5, .int v5)] [] (ej_sh, m) res :=
  oj_loop_Z (body := fun q : (Int32 × Int32 × ej_M) => f_X9_rank_L17b v0 v1 v2 v3 q.1 q.2.1 q.2.2) (P := fun q : (Int32 × Int32 × ej_M) => ej_Z cX9_rank 6 (some .int) RX9 "rank" (e + 1) 17 [(0, .ref v0), (1, .int v1), (2, .int v2), (3, .int v3), (4, .int q.1), (5, .int q.2.1)] [] (ej_sh, q.2.2) res) (K := K) (fun s x hb hl hr => b_X9_rank_L17b e hd v0 v1 v2 v3  s.1 s.2.1 s.2.2 (K := fun x => (∀ s' : (Int32 × Int32 × ej_M), x = Sum.inl s' → ej_Z cX9_rank 6 (some .int) RX9 "rank" (e + 1) 17 [(0, .ref v0), (1, .int v1), (2, .int v2), (3, .int v3), (4, .int s'.1), (5, .int s'.2.1)] [] (ej_sh, s'.2.2) res) ∧ ∀ e, x = Sum.inr e → K e) hb ⟨hl, hr⟩ (fun q hq => hq.1 q rfl) (fun q hq => h1 q (hq.2 _ rfl)) (fun q hq => h0 q (hq.2 _ rfl))) oj_FU (v4, v5, m) x hf hK
def f_X9_rank_L4b (v0 : Nat) (v1 : Int32) (v2 : Int32) (v3 : Int32) (m : ej_M) : Option ((Int32 × Int32 × ej_M) ⊕ (Int32 × ej_M)) :=
  if v1 ≤ v3 then
    some (Sum.inr (v2, m))
  else
    f_X9_rank_L17 v0 v1 v2 v3 0 (v3 + 1) m
set_option maxHeartbeats 4000000 in
set_option maxRecDepth 100000 in
theorem b_X9_rank_L4b (e : Nat) (hd : 0 ≤ e) (v0 : Nat) (v1 : Int32) (v2 : Int32) (v3 : Int32) (m : ej_M) {x : ((Int32 × Int32 × ej_M) ⊕ (Int32 × ej_M))} {res : Option Value × ej_H} {K : ((Int32 × Int32 × ej_M) ⊕ (Int32 × ej_M)) → Prop} (hf : f_X9_rank_L4b v0 v1 v2 v3 m = some x) (hK : K x) (h1 : ∀ q : (Int32 × Int32 × ej_M), K (Sum.inl q) → ej_Z cX9_rank 6 (some .int) RX9 "rank" (e + 1) 4 [(0, .ref v0), (1, .int v1), (2, .int q.1), (3, .int q.2.1)] [] (ej_sh, q.2.2) res) (h0 : ∀ q : (Int32 × ej_M), K (Sum.inr q) → res = (some (Value.int q.1), (ej_sh, q.2))) : ej_Z cX9_rank 6 (some .int) RX9 "rank" (e + 1) 4 [(0, .ref v0), (1, .int v1), (2, .int v2), (3, .int v3)] [] (ej_sh, m) res := by
  unfold f_X9_rank_L4b at hf
  refine z_iload_n (pc := 4) (i := 3) (j := 3) dX9_rank_4 rfl rfl ?_
  refine z_iload_n (pc := 5) (i := 1) (j := 1) dX9_rank_5 rfl rfl ?_
  refine z_icmp_ge (pc := 6) (tgt := 61) dX9_rank_6 (by decide) (fun hc => ?_) (fun hc => ?_)
  · rw [if_pos hc] at hf
    refine z_iload_n (pc := 61) (i := 2) (j := 2) dX9_rank_61 rfl rfl ?_
    obtain rfl := Option.some.inj hf
    rw [h0 _ hK]
    exact z_iret dX9_rank_62 rfl rfl
  · rw [if_neg hc] at hf
    refine z_iconst (pc := 9) dX9_rank_9 ki_0 ?_
    refine z_istore (pc := 10) (i := 4) (ls' := [(4, .int 0), (0, .ref v0), (1, .int v1), (2, .int v2), (3, .int v3)]) dX9_rank_10 (Nat.le_of_ble_eq_true rfl) rfl ?_
    refine z_iload_n (pc := 12) (i := 3) (j := 4) dX9_rank_12 rfl rfl ?_
    refine z_iconst (pc := 13) dX9_rank_13 ki_1 ?_
    refine z_iadd (pc := 14) dX9_rank_14 ?_
    refine z_istore (pc := 15) (i := 5) (ls' := [(5, .int (v3 + 1)), (4, .int 0), (0, .ref v0), (1, .int v1), (2, .int v2), (3, .int v3)]) dX9_rank_15 (Nat.le_of_ble_eq_true rfl) rfl ?_
    exact z_pick [2, 3, 4, 5, 1, 0] rfl (b_X9_rank_L17 e hd v0 v1 v2 v3 0 (v3 + 1) m (K := K) hf hK h1 h0)
def f_X9_rank_L4 (v0 : Nat) (v1 : Int32) (v2 : Int32) (v3 : Int32) (m : ej_M) : Option (Int32 × ej_M) := oj_loop (fun q : (Int32 × Int32 × ej_M) => f_X9_rank_L4b v0 v1 q.1 q.2.1 q.2.2) oj_FU (v2, v3, m)
set_option maxHeartbeats 4000000 in
set_option maxRecDepth 100000 in
theorem b_X9_rank_L4 (e : Nat) (hd : 0 ≤ e) (v0 : Nat) (v1 : Int32) (v2 : Int32) (v3 : Int32) (m : ej_M) {x : (Int32 × ej_M)} {res : Option Value × ej_H} {K : (Int32 × ej_M) → Prop} (hf : f_X9_rank_L4 v0 v1 v2 v3 m = some x) (hK : K x) (h0 : ∀ q : (Int32 × ej_M), K q → res = (some (Value.int q.1), (ej_sh, q.2))) : ej_Z cX9_rank 6 (some .int) RX9 "rank" (e + 1) 4 [(0, .ref v0), (1, .int v1), (2, .int v2), (3, .int v3)] [] (ej_sh, m) res :=
  oj_loop_Z (body := fun q : (Int32 × Int32 × ej_M) => f_X9_rank_L4b v0 v1 q.1 q.2.1 q.2.2) (P := fun q : (Int32 × Int32 × ej_M) => ej_Z cX9_rank 6 (some .int) RX9 "rank" (e + 1) 4 [(0, .ref v0), (1, .int v1), (2, .int q.1), (3, .int q.2.1)] [] (ej_sh, q.2.2) res) (K := K) (fun s x hb hl hr => b_X9_rank_L4b e hd v0 v1  s.1 s.2.1 s.2.2 (K := fun x => (∀ s' : (Int32 × Int32 × ej_M), x = Sum.inl s' → ej_Z cX9_rank 6 (some .int) RX9 "rank" (e + 1) 4 [(0, .ref v0), (1, .int v1), (2, .int s'.1), (3, .int s'.2.1)] [] (ej_sh, s'.2.2) res) ∧ ∀ e, x = Sum.inr e → K e) hb ⟨hl, hr⟩ (fun q hq => hq.1 q rfl) (fun q hq => h0 q (hq.2 _ rfl))) oj_FU (v2, v3, m) x hf hK
def f_X9_rank (v0 : Nat) (v1 : Int32) (m : ej_M) : Option (Int32 × ej_M) :=
  f_X9_rank_L4 v0 v1 0 0 m
set_option maxHeartbeats 4000000 in
set_option maxRecDepth 100000 in
theorem b_X9_rank (e : Nat) (hd : 0 ≤ e) (v0 : Nat) (v1 : Int32) (m : ej_M) {x : (Int32 × ej_M)} {res : Option Value × ej_H} {K : (Int32 × ej_M) → Prop} (hf : f_X9_rank v0 v1 m = some x) (hK : K x) (h0 : ∀ q : (Int32 × ej_M), K q → res = (some (Value.int q.1), (ej_sh, q.2))) : ej_Z cX9_rank 6 (some .int) RX9 "rank" (e + 1) 0 [(0, .ref v0), (1, .int v1)] [] (ej_sh, m) res := by
  unfold f_X9_rank at hf
  refine z_iconst (pc := 0) dX9_rank_0 ki_0 ?_
  refine z_istore_n (pc := 1) (i := 2) (ls' := [(2, .int 0), (0, .ref v0), (1, .int v1)]) dX9_rank_1 rfl (Nat.le_of_ble_eq_true rfl) rfl ?_
  refine z_iconst (pc := 2) dX9_rank_2 ki_0 ?_
  refine z_istore_n (pc := 3) (i := 3) (ls' := [(3, .int 0), (2, .int 0), (0, .ref v0), (1, .int v1)]) dX9_rank_3 rfl (Nat.le_of_ble_eq_true rfl) rfl ?_
  exact z_pick [2, 3, 1, 0] rfl (b_X9_rank_L4 e hd v0 v1 0 0 m (K := K) hf hK  h0)
set_option maxHeartbeats 4000000 in
set_option maxRecDepth 100000 in
theorem c_X9_rank (d : Nat) (hd : 1 ≤ d) (v0 : Nat) (v1 : Int32) (m : ej_M) {q : (Int32 × ej_M)} (hf : f_X9_rank v0 v1 m = some q) : ej_Ct yX9_rank cX9_rank 6 (some .int) d [.ref v0, .int v1] (ej_sh, m) ((some (Value.int q.1), (ej_sh, q.2)) : Option Value × ej_H) := by
  obtain ⟨e, rfl⟩ : ∃ e, d = e + 1 := ⟨d - 1, by omega⟩
  exact z_met (by decide +kernel) (Nat.le_of_ble_eq_true rfl) (b_X9_rank e (by omega) v0 v1 m (K := fun z => ((some (Value.int q.1), (ej_sh, q.2)) : Option Value × ej_H) = (some (Value.int z.1), (ej_sh, z.2))) hf rfl (fun _ h => h))
def f_X9_packed_L4b (v1 : Int32) (v2 : Int32) (v3 : Int32) (m : ej_M) : Option ((Int32 × Int32 × ej_M) ⊕ (Int32 × ej_M)) :=
  if v1 ≤ v3 then
    some (Sum.inr (v2, m))
  else
    (f_X10_at 31 v3 m).bind fun q1 =>
    some (Sum.inl ((v2 ||| (q1.1 <<< ((3 * v3) &&& 31))), (v3 + 1), q1.2))
set_option maxHeartbeats 4000000 in
set_option maxRecDepth 100000 in
theorem b_X9_packed_L4b (e : Nat) (hd : 0 ≤ e) (v1 : Int32) (v2 : Int32) (v3 : Int32) (m : ej_M) {x : ((Int32 × Int32 × ej_M) ⊕ (Int32 × ej_M))} {res : Option Value × ej_H} {K : ((Int32 × Int32 × ej_M) ⊕ (Int32 × ej_M)) → Prop} (hf : f_X9_packed_L4b v1 v2 v3 m = some x) (hK : K x) (h1 : ∀ q : (Int32 × Int32 × ej_M), K (Sum.inl q) → ej_Z cX9_packed 4 (some .int) RX9 "packed" (e + 1) 4 [(0, .ref 28), (1, .int v1), (2, .int q.1), (3, .int q.2.1)] [] (ej_sh, q.2.2) res) (h0 : ∀ q : (Int32 × ej_M), K (Sum.inr q) → res = (some (Value.int q.1), (ej_sh, q.2))) : ej_Z cX9_packed 4 (some .int) RX9 "packed" (e + 1) 4 [(0, .ref 28), (1, .int v1), (2, .int v2), (3, .int v3)] [] (ej_sh, m) res := by
  unfold f_X9_packed_L4b at hf
  refine z_iload_n (pc := 4) (i := 3) (j := 3) dX9_packed_4 rfl rfl ?_
  refine z_iload_n (pc := 5) (i := 1) (j := 1) dX9_packed_5 rfl rfl ?_
  refine z_icmp_ge (pc := 6) (tgt := 30) dX9_packed_6 (by decide) (fun hc => ?_) (fun hc => ?_)
  · rw [if_pos hc] at hf
    refine z_iload_n (pc := 30) (i := 2) (j := 2) dX9_packed_30 rfl rfl ?_
    obtain rfl := Option.some.inj hf
    rw [h0 _ hK]
    exact z_iret dX9_packed_31 rfl rfl
  · rw [if_neg hc] at hf
    refine z_iload_n (pc := 9) (i := 2) (j := 2) dX9_packed_9 rfl rfl ?_
    refine z_aload_n (pc := 10) (i := 0) (j := 0) dX9_packed_10 rfl rfl ?_
    refine z_ogetR (pc := 11) dX9_packed_11 lf_RX9_18 sh_28 rfl rfl rfl ?_
    refine z_iload_n (pc := 14) (i := 3) (j := 3) dX9_packed_14 rfl rfl ?_
    obtain ⟨q1, hq1, hf⟩ := Option.bind_eq_some_iff.mp hf
    refine z_oSi (pc := 15) (as := [.ref 31, .int v3]) (rest := [.int v2]) dX9_packed_15 lm_RX9_77 mf_X10_at ms_X10_at rfl rfl (Nat.le_of_ble_eq_true rfl) (c_X10_at e (by omega) 31 v3 m hq1) ?_
    refine z_iconst (pc := 18) dX9_packed_18 ki_3 ?_
    refine z_iload_n (pc := 19) (i := 3) (j := 3) dX9_packed_19 rfl rfl ?_
    refine z_imul (pc := 20) dX9_packed_20 ?_
    refine z_ishl (pc := 21) dX9_packed_21 ?_
    refine z_ior (pc := 22) dX9_packed_22 ?_
    refine z_istore_n (pc := 23) (i := 2) (ls' := [(2, .int (v2 ||| (q1.1 <<< ((3 * v3) &&& 31)))), (0, .ref 28), (1, .int v1), (3, .int v3)]) dX9_packed_23 rfl (Nat.le_of_ble_eq_true rfl) rfl ?_
    refine z_iinc (pc := 24) (j := 3) (ls' := [(3, .int (v3 + 1)), (2, .int (v2 ||| (q1.1 <<< ((3 * v3) &&& 31)))), (0, .ref 28), (1, .int v1)]) dX9_packed_24 rfl ki_1 (Nat.le_of_ble_eq_true rfl) rfl ?_
    refine z_goto (pc := 27) (tgt := 4) dX9_packed_27 (by decide) ?_
    obtain rfl := Option.some.inj hf
    exact z_pick (ls' := [(0, .ref 28), (1, .int v1), (2, .int (v2 ||| (q1.1 <<< ((3 * v3) &&& 31)))), (3, .int (v3 + 1))]) [2, 3, 1, 0] rfl (h1 ((v2 ||| (q1.1 <<< ((3 * v3) &&& 31))), (v3 + 1), q1.2) hK)
def f_X9_packed_L4 (v1 : Int32) (v2 : Int32) (v3 : Int32) (m : ej_M) : Option (Int32 × ej_M) := oj_loop (fun q : (Int32 × Int32 × ej_M) => f_X9_packed_L4b v1 q.1 q.2.1 q.2.2) oj_FU (v2, v3, m)
set_option maxHeartbeats 4000000 in
set_option maxRecDepth 100000 in
theorem b_X9_packed_L4 (e : Nat) (hd : 0 ≤ e) (v1 : Int32) (v2 : Int32) (v3 : Int32) (m : ej_M) {x : (Int32 × ej_M)} {res : Option Value × ej_H} {K : (Int32 × ej_M) → Prop} (hf : f_X9_packed_L4 v1 v2 v3 m = some x) (hK : K x) (h0 : ∀ q : (Int32 × ej_M), K q → res = (some (Value.int q.1), (ej_sh, q.2))) : ej_Z cX9_packed 4 (some .int) RX9 "packed" (e + 1) 4 [(0, .ref 28), (1, .int v1), (2, .int v2), (3, .int v3)] [] (ej_sh, m) res :=
  oj_loop_Z (body := fun q : (Int32 × Int32 × ej_M) => f_X9_packed_L4b v1 q.1 q.2.1 q.2.2) (P := fun q : (Int32 × Int32 × ej_M) => ej_Z cX9_packed 4 (some .int) RX9 "packed" (e + 1) 4 [(0, .ref 28), (1, .int v1), (2, .int q.1), (3, .int q.2.1)] [] (ej_sh, q.2.2) res) (K := K) (fun s x hb hl hr => b_X9_packed_L4b e hd v1  s.1 s.2.1 s.2.2 (K := fun x => (∀ s' : (Int32 × Int32 × ej_M), x = Sum.inl s' → ej_Z cX9_packed 4 (some .int) RX9 "packed" (e + 1) 4 [(0, .ref 28), (1, .int v1), (2, .int s'.1), (3, .int s'.2.1)] [] (ej_sh, s'.2.2) res) ∧ ∀ e, x = Sum.inr e → K e) hb ⟨hl, hr⟩ (fun q hq => hq.1 q rfl) (fun q hq => h0 q (hq.2 _ rfl))) oj_FU (v2, v3, m) x hf hK
def f_X9_packed (v1 : Int32) (m : ej_M) : Option (Int32 × ej_M) :=
  f_X9_packed_L4 v1 0 0 m
set_option maxHeartbeats 4000000 in
set_option maxRecDepth 100000 in
theorem b_X9_packed (e : Nat) (hd : 0 ≤ e) (v1 : Int32) (m : ej_M) {x : (Int32 × ej_M)} {res : Option Value × ej_H} {K : (Int32 × ej_M) → Prop} (hf : f_X9_packed v1 m = some x) (hK : K x) (h0 : ∀ q : (Int32 × ej_M), K q → res = (some (Value.int q.1), (ej_sh, q.2))) : ej_Z cX9_packed 4 (some .int) RX9 "packed" (e + 1) 0 [(0, .ref 28), (1, .int v1)] [] (ej_sh, m) res := by
  unfold f_X9_packed at hf
  refine z_iconst (pc := 0) dX9_packed_0 ki_0 ?_
  refine z_istore_n (pc := 1) (i := 2) (ls' := [(2, .int 0), (0, .ref 28), (1, .int v1)]) dX9_packed_1 rfl (Nat.le_of_ble_eq_true rfl) rfl ?_
  refine z_iconst (pc := 2) dX9_packed_2 ki_0 ?_
  refine z_istore_n (pc := 3) (i := 3) (ls' := [(3, .int 0), (2, .int 0), (0, .ref 28), (1, .int v1)]) dX9_packed_3 rfl (Nat.le_of_ble_eq_true rfl) rfl ?_
  exact z_pick [2, 3, 1, 0] rfl (b_X9_packed_L4 e hd v1 0 0 m (K := K) hf hK  h0)
set_option maxHeartbeats 4000000 in
set_option maxRecDepth 100000 in
theorem c_X9_packed (d : Nat) (hd : 1 ≤ d) (v1 : Int32) (m : ej_M) {q : (Int32 × ej_M)} (hf : f_X9_packed v1 m = some q) : ej_Ct yX9_packed cX9_packed 4 (some .int) d [.ref 28, .int v1] (ej_sh, m) ((some (Value.int q.1), (ej_sh, q.2)) : Option Value × ej_H) := by
  obtain ⟨e, rfl⟩ : ∃ e, d = e + 1 := ⟨d - 1, by omega⟩
  exact z_met (by decide +kernel) (Nat.le_of_ble_eq_true rfl) (b_X9_packed e (by omega) v1 m (K := fun z => ((some (Value.int q.1), (ej_sh, q.2)) : Option Value × ej_H) = (some (Value.int z.1), (ej_sh, z.2))) hf rfl (fun _ h => h))
def f_X9_reach_B52 (v1 : Int32) (v2 : Int32) (v3 : Int32) (m : ej_M) : Option (Unit × ej_M) :=
  (f_X10_lay 32 v3 v2 m).bind fun q1 =>
  (f_X9_packed v1 q1.2).bind fun q2 =>
  (f_X10_lay 33 (q1.2.1 28 6) q2.1 q2.2).bind fun q3 =>
  (oj_pf q3.2 28 6 ((q3.2.1 28 6) + 1)).bind fun m4 =>
  some ((), m4)
set_option maxHeartbeats 4000000 in
set_option maxRecDepth 100000 in
theorem b_X9_reach_B52 (e : Nat) (hd : 4 ≤ e) (v1 : Int32) (v2 : Int32) (v3 : Int32) (m : ej_M) {x : (Unit × ej_M)} {res : Option Value × ej_H} {K : (Unit × ej_M) → Prop} (hf : f_X9_reach_B52 v1 v2 v3 m = some x) (hK : K x) (h0 : ∀ q : (Unit × ej_M), K q → res = (none, (ej_sh, q.2))) : ej_Z cX9_reach 4 none RX9 "reach" (e + 1) 52 [(0, .ref 28), (1, .int v1), (2, .int v2), (3, .int v3)] [] (ej_sh, m) res := by
  unfold f_X9_reach_B52 at hf
  refine z_aload_n (pc := 52) (i := 0) (j := 0) dX9_reach_52 rfl rfl ?_
  refine z_ogetR (pc := 53) dX9_reach_53 lf_RX9_21 sh_28 rfl rfl rfl ?_
  refine z_iload_n (pc := 56) (i := 3) (j := 3) dX9_reach_56 rfl rfl ?_
  refine z_iload_n (pc := 57) (i := 2) (j := 2) dX9_reach_57 rfl rfl ?_
  obtain ⟨q1, hq1, hf⟩ := Option.bind_eq_some_iff.mp hf
  refine z_oSv (pc := 58) (as := [.ref 32, .int v3, .int v2]) (rest := []) dX9_reach_58 lm_RX9_55 mf_X10_lay ms_X10_lay rfl rfl (Nat.le_of_ble_eq_true rfl) (c_X10_lay e (by omega) 32 v3 v2 m hq1) ?_
  refine z_aload_n (pc := 61) (i := 0) (j := 0) dX9_reach_61 rfl rfl ?_
  refine z_ogetR (pc := 62) dX9_reach_62 lf_RX9_24 sh_28 rfl rfl rfl ?_
  refine z_aload_n (pc := 65) (i := 0) (j := 0) dX9_reach_65 rfl rfl ?_
  refine z_ogetI (pc := 66) dX9_reach_66 lf_RX9_63 sh_28 rfl rfl ?_
  refine z_aload_n (pc := 69) (i := 0) (j := 0) dX9_reach_69 rfl rfl ?_
  refine z_iload_n (pc := 70) (i := 1) (j := 1) dX9_reach_70 rfl rfl ?_
  obtain ⟨q2, hq2, hf⟩ := Option.bind_eq_some_iff.mp hf
  refine z_oVi (pc := 71) (as := [.int v1]) (rest := [.int (q1.2.1 28 6), .ref 33]) dX9_reach_71 lm_RX9_93 mf_X9_packed mi_X9_packed mv_X9_packed rc_28 rfl rfl (Nat.le_of_ble_eq_true rfl) (c_X9_packed e (by omega) v1 q1.2 hq2) ?_
  obtain ⟨q3, hq3, hf⟩ := Option.bind_eq_some_iff.mp hf
  refine z_oSv (pc := 74) (as := [.ref 33, .int (q1.2.1 28 6), .int q2.1]) (rest := []) dX9_reach_74 lm_RX9_55 mf_X10_lay ms_X10_lay rfl rfl (Nat.le_of_ble_eq_true rfl) (c_X10_lay e (by omega) 33 (q1.2.1 28 6) q2.1 q2.2 hq3) ?_
  refine z_aload_n (pc := 77) (i := 0) (j := 0) dX9_reach_77 rfl rfl ?_
  refine z_dup (pc := 78) dX9_reach_78 rfl ?_
  refine z_ogetI (pc := 79) dX9_reach_79 lf_RX9_63 sh_28 rfl rfl ?_
  refine z_iconst (pc := 82) dX9_reach_82 ki_1 ?_
  refine z_iadd (pc := 83) dX9_reach_83 ?_
  obtain ⟨m4, hm4, hf⟩ := Option.bind_eq_some_iff.mp hf
  refine z_oputI (pc := 84) dX9_reach_84 lf_RX9_63 sh_28 rfl hm4 ?_
  obtain rfl := Option.some.inj hf
  rw [h0 _ hK]
  exact z_ret dX9_reach_87 rfl
def f_X9_reach (v1 : Int32) (v2 : Int32) (m : ej_M) : Option (Unit × ej_M) :=
  (f_X9_rank 31 v1 m).bind fun q1 =>
  (f_X10_at 32 q1.1 q1.2).bind fun q2 =>
  if q2.1 = (-1) then
    if v2 ≤ 0 then
      f_X9_reach_B52 v1 v2 q1.1 q2.2
    else
      (f_X4_isLawful 31 v1 q2.2).bind fun q3 =>
      if q3.1 = 0 then
        (f_X10_lay 32 q1.1 (-2) q3.2).bind fun q4 =>
        some ((), q4.2)
      else
        f_X9_reach_B52 v1 v2 q1.1 q3.2
  else
    some ((), q2.2)
set_option maxHeartbeats 4000000 in
set_option maxRecDepth 100000 in
theorem b_X9_reach (e : Nat) (hd : 4 ≤ e) (v1 : Int32) (v2 : Int32) (m : ej_M) {x : (Unit × ej_M)} {res : Option Value × ej_H} {K : (Unit × ej_M) → Prop} (hf : f_X9_reach v1 v2 m = some x) (hK : K x) (h0 : ∀ q : (Unit × ej_M), K q → res = (none, (ej_sh, q.2))) : ej_Z cX9_reach 4 none RX9 "reach" (e + 1) 0 [(0, .ref 28), (1, .int v1), (2, .int v2)] [] (ej_sh, m) res := by
  unfold f_X9_reach at hf
  refine z_aload_n (pc := 0) (i := 0) (j := 0) dX9_reach_0 rfl rfl ?_
  refine z_ogetR (pc := 1) dX9_reach_1 lf_RX9_18 sh_28 rfl rfl rfl ?_
  refine z_iload_n (pc := 4) (i := 1) (j := 1) dX9_reach_4 rfl rfl ?_
  obtain ⟨q1, hq1, hf⟩ := Option.bind_eq_some_iff.mp hf
  refine z_oSi (pc := 5) (as := [.ref 31, .int v1]) (rest := []) dX9_reach_5 lm_RX9_59 mf_X9_rank ms_X9_rank rfl rfl (Nat.le_of_ble_eq_true rfl) (c_X9_rank e (by omega) 31 v1 m hq1) ?_
  refine z_istore_n (pc := 8) (i := 3) (ls' := [(3, .int q1.1), (0, .ref 28), (1, .int v1), (2, .int v2)]) dX9_reach_8 rfl (Nat.le_of_ble_eq_true rfl) rfl ?_
  refine z_aload_n (pc := 9) (i := 0) (j := 1) dX9_reach_9 rfl rfl ?_
  refine z_ogetR (pc := 10) dX9_reach_10 lf_RX9_21 sh_28 rfl rfl rfl ?_
  refine z_iload_n (pc := 13) (i := 3) (j := 0) dX9_reach_13 rfl rfl ?_
  obtain ⟨q2, hq2, hf⟩ := Option.bind_eq_some_iff.mp hf
  refine z_oSi (pc := 14) (as := [.ref 32, .int q1.1]) (rest := []) dX9_reach_14 lm_RX9_77 mf_X10_at ms_X10_at rfl rfl (Nat.le_of_ble_eq_true rfl) (c_X10_at e (by omega) 32 q1.1 q1.2 hq2) ?_
  refine z_iconst (pc := 17) dX9_reach_17 ki_n1 ?_
  refine z_icmp_eq (pc := 18) (tgt := 22) dX9_reach_18 (by decide) (fun hc => ?_) (fun hc => ?_)
  · rw [if_pos hc] at hf
    refine z_iload_n (pc := 22) (i := 2) (j := 3) dX9_reach_22 rfl rfl ?_
    refine z_if_le (pc := 23) (tgt := 52) dX9_reach_23 (by decide) (fun hc => ?_) (fun hc => ?_)
    · rw [if_pos hc] at hf
      exact z_pick [1, 2, 3, 0] rfl (b_X9_reach_B52 e hd v1 v2 q1.1 q2.2 (K := K) hf hK  h0)
    · rw [if_neg hc] at hf
      refine z_aload_n (pc := 26) (i := 0) (j := 1) dX9_reach_26 rfl rfl ?_
      refine z_ogetR (pc := 27) dX9_reach_27 lf_RX9_27 sh_28 rfl rfl rfl ?_
      refine z_aload_n (pc := 30) (i := 0) (j := 1) dX9_reach_30 rfl rfl ?_
      refine z_ogetR (pc := 31) dX9_reach_31 lf_RX9_18 sh_28 rfl rfl rfl ?_
      refine z_iload_n (pc := 34) (i := 1) (j := 2) dX9_reach_34 rfl rfl ?_
      obtain ⟨q3, hq3, hf⟩ := Option.bind_eq_some_iff.mp hf
      refine z_oVi (pc := 35) (as := [.ref 31, .int v1]) (rest := []) dX9_reach_35 lm_RX9_89 mf_X4_isLawful mi_X4_isLawful mv_X4_isLawful rc_6 rfl rfl (Nat.le_of_ble_eq_true rfl) (c_X4_isLawful e (by omega) 31 v1 q2.2 hq3) ?_
      refine z_if_ne (pc := 38) (tgt := 52) dX9_reach_38 (by decide) (fun hc => ?_) (fun hc => ?_)
      · rw [if_neg hc] at hf
        exact z_pick [1, 2, 3, 0] rfl (b_X9_reach_B52 e hd v1 v2 q1.1 q3.2 (K := K) hf hK  h0)
      · rw [if_pos hc] at hf
        refine z_aload_n (pc := 41) (i := 0) (j := 1) dX9_reach_41 rfl rfl ?_
        refine z_ogetR (pc := 42) dX9_reach_42 lf_RX9_21 sh_28 rfl rfl rfl ?_
        refine z_iload_n (pc := 45) (i := 3) (j := 0) dX9_reach_45 rfl rfl ?_
        refine z_bipush (pc := 46) dX9_reach_46 kb_n2 ?_
        obtain ⟨q4, hq4, hf⟩ := Option.bind_eq_some_iff.mp hf
        refine z_oSv (pc := 48) (as := [.ref 32, .int q1.1, .int (-2)]) (rest := []) dX9_reach_48 lm_RX9_55 mf_X10_lay ms_X10_lay rfl rfl (Nat.le_of_ble_eq_true rfl) (c_X10_lay e (by omega) 32 q1.1 (-2) q3.2 hq4) ?_
        obtain rfl := Option.some.inj hf
        rw [h0 _ hK]
        exact z_ret dX9_reach_51 rfl
  · rw [if_neg hc] at hf
    obtain rfl := Option.some.inj hf
    rw [h0 _ hK]
    exact z_ret dX9_reach_21 rfl
set_option maxHeartbeats 4000000 in
set_option maxRecDepth 100000 in
theorem c_X9_reach (d : Nat) (hd : 5 ≤ d) (v1 : Int32) (v2 : Int32) (m : ej_M) {q : (Unit × ej_M)} (hf : f_X9_reach v1 v2 m = some q) : ej_Ct yX9_reach cX9_reach 4 none d [.ref 28, .int v1, .int v2] (ej_sh, m) ((none, (ej_sh, q.2)) : Option Value × ej_H) := by
  obtain ⟨e, rfl⟩ : ∃ e, d = e + 1 := ⟨d - 1, by omega⟩
  exact z_met (by decide +kernel) (Nat.le_of_ble_eq_true rfl) (b_X9_reach e (by omega) v1 v2 m (K := fun z => ((none, (ej_sh, q.2)) : Option Value × ej_H) = (none, (ej_sh, z.2))) hf rfl (fun _ h => h))
