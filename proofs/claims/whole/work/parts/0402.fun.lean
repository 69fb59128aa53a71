def f_X4_isPlace (v1 : Int32) (m : ej_M) : Option (Int32 × ej_M) :=
  if v1 < 0 then
    some (0, m)
  else
    if (m.1 6 4) ≤ v1 then
      some (0, m)
    else
      some (1, m)
set_option maxHeartbeats 4000000 in
set_option maxRecDepth 100000 in
theorem b_X4_isPlace (d : Nat) (v1 : Int32) (m : ej_M) {x : (Int32 × ej_M)} {res : Option Value × ej_H} {K : (Int32 × ej_M) → Prop} (hf : f_X4_isPlace v1 m = some x) (hK : K x) (h0 : ∀ q : (Int32 × ej_M), K q → res = (some (Value.int q.1), (ej_sh, q.2))) : ej_Z cX4_isPlace 2 (some .boolean) RX4 "isPlace" d 0 [(0, .ref 6), (1, .int v1)] [] (ej_sh, m) res := by
  unfold f_X4_isPlace at hf
  refine z_iload_n (pc := 0) (i := 1) (j := 1) dX4_isPlace_0 rfl rfl ?_
  refine z_if_lt (pc := 1) (tgt := 16) dX4_isPlace_1 (by decide) (fun hc => ?_) (fun hc => ?_)
  · rw [if_pos hc] at hf
    refine z_iconst (pc := 16) dX4_isPlace_16 ki_0 ?_
    obtain rfl := Option.some.inj hf
    rw [h0 _ hK]
    exact z_iret dX4_isPlace_17 rfl rfl
  · rw [if_neg hc] at hf
    refine z_iload_n (pc := 4) (i := 1) (j := 1) dX4_isPlace_4 rfl rfl ?_
    refine z_aload_n (pc := 5) (i := 0) (j := 0) dX4_isPlace_5 rfl rfl ?_
    refine z_ogetI (pc := 6) dX4_isPlace_6 lf_RX4_43 sh_6 rfl rfl ?_
    refine z_icmp_ge (pc := 9) (tgt := 16) dX4_isPlace_9 (by decide) (fun hc => ?_) (fun hc => ?_)
    · rw [if_pos hc] at hf
      refine z_iconst (pc := 16) dX4_isPlace_16 ki_0 ?_
      obtain rfl := Option.some.inj hf
      rw [h0 _ hK]
      exact z_iret dX4_isPlace_17 rfl rfl
    · rw [if_neg hc] at hf
      refine z_iconst (pc := 12) dX4_isPlace_12 ki_1 ?_
      refine z_goto (pc := 13) (tgt := 17) dX4_isPlace_13 (by decide) ?_
      obtain rfl := Option.some.inj hf
      rw [h0 _ hK]
      exact z_iret dX4_isPlace_17 rfl rfl
set_option maxHeartbeats 4000000 in
set_option maxRecDepth 100000 in
theorem c_X4_isPlace (d : Nat) (hd : 0 ≤ d) (v1 : Int32) (m : ej_M) {q : (Int32 × ej_M)} (hf : f_X4_isPlace v1 m = some q) : ej_Ct yX4_isPlace cX4_isPlace 2 (some .boolean) d [.ref 6, .int v1] (ej_sh, m) ((some (Value.int q.1), (ej_sh, q.2)) : Option Value × ej_H) := by
  exact z_met (by decide +kernel) (Nat.le_of_ble_eq_true rfl) (b_X4_isPlace d v1 m (K := fun z => ((some (Value.int q.1), (ej_sh, q.2)) : Option Value × ej_H) = (some (Value.int z.1), (ej_sh, z.2))) hf rfl (fun _ h => h))
def f_X4_placeIn_L2b (v0 : Nat) (v1 : Int32) (v2 : Int32) (v3 : Int32) (m : ej_M) : Option ((Int32 × ej_M) ⊕ (Int32 × ej_M)) :=
  if v1 ≤ v3 then
    some (Sum.inr ((-2), m))
  else
    (f_X10_at v0 v3 m).bind fun q1 =>
    if q1.1 = v2 then
      some (Sum.inr (v3, q1.2))
    else
      some (Sum.inl ((v3 + 1), q1.2))
set_option maxHeartbeats 4000000 in
set_option maxRecDepth 100000 in
theorem b_X4_placeIn_L2b (e : Nat) (hd : 0 ≤ e) (v0 : Nat) (v1 : Int32) (v2 : Int32) (v3 : Int32) (m : ej_M) {x : ((Int32 × ej_M) ⊕ (Int32 × ej_M))} {res : Option Value × ej_H} {K : ((Int32 × ej_M) ⊕ (Int32 × ej_M)) → Prop} (hf : f_X4_placeIn_L2b v0 v1 v2 v3 m = some x) (hK : K x) (h1 : ∀ q : (Int32 × ej_M), K (Sum.inl q) → ej_Z cX4_placeIn 4 (some .int) RX4 "placeIn" (e + 1) 2 [(0, .ref v0), (1, .int v1), (2, .int v2), (3, .int q.1)] [] (ej_sh, q.2) res) (h0 : ∀ q : (Int32 × ej_M), K (Sum.inr q) → res = (some (Value.int q.1), (ej_sh, q.2))) : ej_Z cX4_placeIn 4 (some .int) RX4 "placeIn" (e + 1) 2 [(0, .ref v0), (1, .int v1), (2, .int v2), (3, .int v3)] [] (ej_sh, m) res := by
  unfold f_X4_placeIn_L2b at hf
  refine z_iload_n (pc := 2) (i := 3) (j := 3) dX4_placeIn_2 rfl rfl ?_
  refine z_iload_n (pc := 3) (i := 1) (j := 1) dX4_placeIn_3 rfl rfl ?_
  refine z_icmp_ge (pc := 4) (tgt := 24) dX4_placeIn_4 (by decide) (fun hc => ?_) (fun hc => ?_)
  · rw [if_pos hc] at hf
    refine z_bipush (pc := 24) dX4_placeIn_24 kb_n2 ?_
    obtain rfl := Option.some.inj hf
    rw [h0 _ hK]
    exact z_iret dX4_placeIn_26 rfl rfl
  · rw [if_neg hc] at hf
    refine z_aload_n (pc := 7) (i := 0) (j := 0) dX4_placeIn_7 rfl rfl ?_
    refine z_iload_n (pc := 8) (i := 3) (j := 3) dX4_placeIn_8 rfl rfl ?_
    obtain ⟨q1, hq1, hf⟩ := Option.bind_eq_some_iff.mp hf
    refine z_oSi (pc := 9) (as := [.ref v0, .int v3]) (rest := []) dX4_placeIn_9 lm_RX4_46 mf_X10_at ms_X10_at rfl rfl (Nat.le_of_ble_eq_true rfl) (c_X10_at e (by omega) v0 v3 m hq1) ?_
    refine z_iload_n (pc := 12) (i := 2) (j := 2) dX4_placeIn_12 rfl rfl ?_
    refine z_icmp_ne (pc := 13) (tgt := 18) dX4_placeIn_13 (by decide) (fun hc => ?_) (fun hc => ?_)
    · rw [if_neg hc] at hf
      refine z_iinc (pc := 18) (j := 3) (ls' := [(3, .int (v3 + 1)), (0, .ref v0), (1, .int v1), (2, .int v2)]) dX4_placeIn_18 rfl ki_1 (Nat.le_of_ble_eq_true rfl) rfl ?_
      refine z_goto (pc := 21) (tgt := 2) dX4_placeIn_21 (by decide) ?_
      obtain rfl := Option.some.inj hf
      exact z_pick (ls' := [(0, .ref v0), (1, .int v1), (2, .int v2), (3, .int (v3 + 1))]) [1, 2, 3, 0] rfl (h1 ((v3 + 1), q1.2) hK)
    · rw [if_pos hc] at hf
      refine z_iload_n (pc := 16) (i := 3) (j := 3) dX4_placeIn_16 rfl rfl ?_
      obtain rfl := Option.some.inj hf
      rw [h0 _ hK]
      exact z_iret dX4_placeIn_17 rfl rfl
def f_X4_placeIn_L2 (v0 : Nat) (v1 : Int32) (v2 : Int32) (v3 : Int32) (m : ej_M) : Option (Int32 × ej_M) := oj_loop (fun q : (Int32 × ej_M) => f_X4_placeIn_L2b v0 v1 v2 q.1 q.2) oj_FU (v3, m)
set_option maxHeartbeats 4000000 in
set_option maxRecDepth 100000 in
theorem b_X4_placeIn_L2 (e : Nat) (hd : 0 ≤ e) (v0 : Nat) (v1 : Int32) (v2 : Int32) (v3 : Int32) (m : ej_M) {x : (Int32 × ej_M)} {res : Option Value × ej_H} {K : (Int32 × ej_M) → Prop} (hf : f_X4_placeIn_L2 v0 v1 v2 v3 m = some x) (hK : K x) (h0 : ∀ q : (Int32 × ej_M), K q → res = (some (Value.int q.1), (ej_sh, q.2))) : ej_Z cX4_placeIn 4 (some .int) RX4 "placeIn" (e + 1) 2 [(0, .ref v0), (1, .int v1), (2, .int v2), (3, .int v3)] [] (ej_sh, m) res :=
  oj_loop_Z (body := fun q : (Int32 × ej_M) => f_X4_placeIn_L2b v0 v1 v2 q.1 q.2) (P := fun q : (Int32 × ej_M) => ej_Z cX4_placeIn 4 (some .int) RX4 "placeIn" (e + 1) 2 [(0, .ref v0), (1, .int v1), (2, .int v2), (3, .int q.1)] [] (ej_sh, q.2) res) (K := K) (fun s x hb hl hr => b_X4_placeIn_L2b e hd v0 v1 v2  s.1 s.2 (K := fun x => (∀ s' : (Int32 × ej_M), x = Sum.inl s' → ej_Z cX4_placeIn 4 (some .int) RX4 "placeIn" (e + 1) 2 [(0, .ref v0), (1, .int v1), (2, .int v2), (3, .int s'.1)] [] (ej_sh, s'.2) res) ∧ ∀ e, x = Sum.inr e → K e) hb ⟨hl, hr⟩ (fun q hq => hq.1 q rfl) (fun q hq => h0 q (hq.2 _ rfl))) oj_FU (v3, m) x hf hK
def f_X4_placeIn (v0 : Nat) (v1 : Int32) (v2 : Int32) (m : ej_M) : Option (Int32 × ej_M) :=
  f_X4_placeIn_L2 v0 v1 v2 0 m
set_option maxHeartbeats 4000000 in
set_option maxRecDepth 100000 in
theorem b_X4_placeIn (e : Nat) (hd : 0 ≤ e) (v0 : Nat) (v1 : Int32) (v2 : Int32) (m : ej_M) {x : (Int32 × ej_M)} {res : Option Value × ej_H} {K : (Int32 × ej_M) → Prop} (hf : f_X4_placeIn v0 v1 v2 m = some x) (hK : K x) (h0 : ∀ q : (Int32 × ej_M), K q → res = (some (Value.int q.1), (ej_sh, q.2))) : ej_Z cX4_placeIn 4 (some .int) RX4 "placeIn" (e + 1) 0 [(0, .ref v0), (1, .int v1), (2, .int v2)] [] (ej_sh, m) res := by
  unfold f_X4_placeIn at hf
  refine z_iconst (pc := 0) dX4_placeIn_0 ki_0 ?_
  refine z_istore_n (pc := 1) (i := 3) (ls' := [(3, .int 0), (0, .ref v0), (1, .int v1), (2, .int v2)]) dX4_placeIn_1 rfl (Nat.le_of_ble_eq_true rfl) rfl ?_
  exact z_pick [1, 2, 3, 0] rfl (b_X4_placeIn_L2 e hd v0 v1 v2 0 m (K := K) hf hK  h0)
set_option maxHeartbeats 4000000 in
set_option maxRecDepth 100000 in
theorem c_X4_placeIn (d : Nat) (hd : 1 ≤ d) (v0 : Nat) (v1 : Int32) (v2 : Int32) (m : ej_M) {q : (Int32 × ej_M)} (hf : f_X4_placeIn v0 v1 v2 m = some q) : ej_Ct yX4_placeIn cX4_placeIn 4 (some .int) d [.ref v0, .int v1, .int v2] (ej_sh, m) ((some (Value.int q.1), (ej_sh, q.2)) : Option Value × ej_H) := by
  obtain ⟨e, rfl⟩ : ∃ e, d = e + 1 := ⟨d - 1, by omega⟩
  exact z_met (by decide +kernel) (Nat.le_of_ble_eq_true rfl) (b_X4_placeIn e (by omega) v0 v1 v2 m (K := fun z => ((some (Value.int q.1), (ej_sh, q.2)) : Option Value × ej_H) = (some (Value.int z.1), (ej_sh, z.2))) hf rfl (fun _ h => h))
def f_X4_placeOf (v1 : Int32) (m : ej_M) : Option (Int32 × ej_M) :=
  (f_X4_placeIn 8 (m.1 6 4) v1 m).bind fun q1 =>
  some (q1.1, q1.2)
set_option maxHeartbeats 4000000 in
set_option maxRecDepth 100000 in
theorem b_X4_placeOf (e : Nat) (hd : 1 ≤ e) (v1 : Int32) (m : ej_M) {x : (Int32 × ej_M)} {res : Option Value × ej_H} {K : (Int32 × ej_M) → Prop} (hf : f_X4_placeOf v1 m = some x) (hK : K x) (h0 : ∀ q : (Int32 × ej_M), K q → res = (some (Value.int q.1), (ej_sh, q.2))) : ej_Z cX4_placeOf 2 (some .int) RX4 "placeOf" (e + 1) 0 [(0, .ref 6), (1, .int v1)] [] (ej_sh, m) res := by
  unfold f_X4_placeOf at hf
  refine z_aload_n (pc := 0) (i := 0) (j := 0) dX4_placeOf_0 rfl rfl ?_
  refine z_ogetR (pc := 1) dX4_placeOf_1 lf_RX4_15 sh_6 rfl rfl rfl ?_
  refine z_aload_n (pc := 4) (i := 0) (j := 0) dX4_placeOf_4 rfl rfl ?_
  refine z_ogetI (pc := 5) dX4_placeOf_5 lf_RX4_43 sh_6 rfl rfl ?_
  refine z_iload_n (pc := 8) (i := 1) (j := 1) dX4_placeOf_8 rfl rfl ?_
  obtain ⟨q1, hq1, hf⟩ := Option.bind_eq_some_iff.mp hf
  refine z_oSi (pc := 9) (as := [.ref 8, .int (m.1 6 4), .int v1]) (rest := []) dX4_placeOf_9 lm_RX4_57 mf_X4_placeIn ms_X4_placeIn rfl rfl (Nat.le_of_ble_eq_true rfl) (c_X4_placeIn e (by omega) 8 (m.1 6 4) v1 m hq1) ?_
  obtain rfl := Option.some.inj hf
  rw [h0 _ hK]
  exact z_iret dX4_placeOf_12 rfl rfl
set_option maxHeartbeats 4000000 in
set_option maxRecDepth 100000 in
theorem c_X4_placeOf (d : Nat) (hd : 2 ≤ d) (v1 : Int32) (m : ej_M) {q : (Int32 × ej_M)} (hf : f_X4_placeOf v1 m = some q) : ej_Ct yX4_placeOf cX4_placeOf 2 (some .int) d [.ref 6, .int v1] (ej_sh, m) ((some (Value.int q.1), (ej_sh, q.2)) : Option Value × ej_H) := by
  obtain ⟨e, rfl⟩ : ∃ e, d = e + 1 := ⟨d - 1, by omega⟩
  exact z_met (by decide +kernel) (Nat.le_of_ble_eq_true rfl) (b_X4_placeOf e (by omega) v1 m (K := fun z => ((some (Value.int q.1), (ej_sh, q.2)) : Option Value × ej_H) = (some (Value.int z.1), (ej_sh, z.2))) hf rfl (fun _ h => h))
def f_X4_isStoneLawful (v1 : Int32) (m : ej_M) : Option (Int32 × ej_M) :=
  (f_X4_placeOf v1 m).bind fun q1 =>
  if q1.1 = (-2) then
    some ((-2), q1.2)
  else
    (f_X4_isLawfulAt 8 (q1.2.1 6 4) q1.1 q1.2).bind fun q2 =>
    if q2.1 = 0 then
      some (0, q2.2)
    else
      some (1, q2.2)
set_option maxHeartbeats 4000000 in
set_option maxRecDepth 100000 in
theorem b_X4_isStoneLawful (e : Nat) (hd : 3 ≤ e) (v1 : Int32) (m : ej_M) {x : (Int32 × ej_M)} {res : Option Value × ej_H} {K : (Int32 × ej_M) → Prop} (hf : f_X4_isStoneLawful v1 m = some x) (hK : K x) (h0 : ∀ q : (Int32 × ej_M), K q → res = (some (Value.int q.1), (ej_sh, q.2))) : ej_Z cX4_isStoneLawful 3 (some .int) RX4 "isStoneLawful" (e + 1) 0 [(0, .ref 6), (1, .int v1)] [] (ej_sh, m) res := by
  unfold f_X4_isStoneLawful at hf
  refine z_aload_n (pc := 0) (i := 0) (j := 0) dX4_isStoneLawful_0 rfl rfl ?_
  refine z_iload_n (pc := 1) (i := 1) (j := 1) dX4_isStoneLawful_1 rfl rfl ?_
  obtain ⟨q1, hq1, hf⟩ := Option.bind_eq_some_iff.mp hf
  refine z_oVi (pc := 2) (as := [.int v1]) (rest := []) dX4_isStoneLawful_2 lm_RX4_61 mf_X4_placeOf mi_X4_placeOf mv_X4_placeOf rc_6 rfl rfl (Nat.le_of_ble_eq_true rfl) (c_X4_placeOf e (by omega) v1 m hq1) ?_
  refine z_istore_n (pc := 5) (i := 2) (ls' := [(2, .int q1.1), (0, .ref 6), (1, .int v1)]) dX4_isStoneLawful_5 rfl (Nat.le_of_ble_eq_true rfl) rfl ?_
  refine z_iload_n (pc := 6) (i := 2) (j := 0) dX4_isStoneLawful_6 rfl rfl ?_
  refine z_bipush (pc := 7) dX4_isStoneLawful_7 kb_n2 ?_
  refine z_icmp_ne (pc := 9) (tgt := 15) dX4_isStoneLawful_9 (by decide) (fun hc => ?_) (fun hc => ?_)
  · rw [if_neg hc] at hf
    refine z_aload_n (pc := 15) (i := 0) (j := 1) dX4_isStoneLawful_15 rfl rfl ?_
    refine z_aload_n (pc := 16) (i := 0) (j := 1) dX4_isStoneLawful_16 rfl rfl ?_
    refine z_ogetR (pc := 17) dX4_isStoneLawful_17 lf_RX4_15 sh_6 rfl rfl rfl ?_
    refine z_aload_n (pc := 20) (i := 0) (j := 1) dX4_isStoneLawful_20 rfl rfl ?_
    refine z_ogetI (pc := 21) dX4_isStoneLawful_21 lf_RX4_43 sh_6 rfl rfl ?_
    refine z_iload_n (pc := 24) (i := 2) (j := 0) dX4_isStoneLawful_24 rfl rfl ?_
    obtain ⟨q2, hq2, hf⟩ := Option.bind_eq_some_iff.mp hf
    refine z_oVi (pc := 25) (as := [.ref 8, .int (q1.2.1 6 4), .int q1.1]) (rest := []) dX4_isStoneLawful_25 lm_RX4_65 mf_X4_isLawfulAt mi_X4_isLawfulAt mv_X4_isLawfulAt rc_6 rfl rfl (Nat.le_of_ble_eq_true rfl) (c_X4_isLawfulAt e (by omega) 8 (q1.2.1 6 4) q1.1 q1.2 hq2) ?_
    refine z_if_eq (pc := 28) (tgt := 35) dX4_isStoneLawful_28 (by decide) (fun hc => ?_) (fun hc => ?_)
    · rw [if_pos hc] at hf
      refine z_iconst (pc := 35) dX4_isStoneLawful_35 ki_0 ?_
      obtain rfl := Option.some.inj hf
      rw [h0 _ hK]
      exact z_iret dX4_isStoneLawful_36 rfl rfl
    · rw [if_neg hc] at hf
      refine z_iconst (pc := 31) dX4_isStoneLawful_31 ki_1 ?_
      refine z_goto (pc := 32) (tgt := 36) dX4_isStoneLawful_32 (by decide) ?_
      obtain rfl := Option.some.inj hf
      rw [h0 _ hK]
      exact z_iret dX4_isStoneLawful_36 rfl rfl
  · rw [if_pos hc] at hf
    refine z_bipush (pc := 12) dX4_isStoneLawful_12 kb_n2 ?_
    obtain rfl := Option.some.inj hf
    rw [h0 _ hK]
    exact z_iret dX4_isStoneLawful_14 rfl rfl
set_option maxHeartbeats 4000000 in
set_option maxRecDepth 100000 in
theorem c_X4_isStoneLawful (d : Nat) (hd : 4 ≤ d) (v1 : Int32) (m : ej_M) {q : (Int32 × ej_M)} (hf : f_X4_isStoneLawful v1 m = some q) : ej_Ct yX4_isStoneLawful cX4_isStoneLawful 3 (some .int) d [.ref 6, .int v1] (ej_sh, m) ((some (Value.int q.1), (ej_sh, q.2)) : Option Value × ej_H) := by
  obtain ⟨e, rfl⟩ : ∃ e, d = e + 1 := ⟨d - 1, by omega⟩
  exact z_met (by decide +kernel) (Nat.le_of_ble_eq_true rfl) (b_X4_isStoneLawful e (by omega) v1 m (K := fun z => ((some (Value.int q.1), (ej_sh, q.2)) : Option Value × ej_H) = (some (Value.int z.1), (ej_sh, z.2))) hf rfl (fun _ h => h))
def f_X10_of (v1 : Int32) (v2 : Int32) (m : ej_M) : Option (Int32 × ej_M) :=
  if v2 = 0 then
    (f_X4_has v1 m).bind fun q1 =>
    if q1.1 = 0 then
      some ((-1), q1.2)
    else
      (f_X4_weightOf v1 q1.2).bind fun q2 =>
      some (q2.1, q2.2)
  else
    if v2 = 1 then
      (f_X4_has v1 m).bind fun q3 =>
      if q3.1 = 0 then
        some ((-1), q3.2)
      else
        (f_X4_placeOf v1 q3.2).bind fun q4 =>
        some (q4.1, q4.2)
    else
      if v2 = 2 then
        (f_X4_has v1 m).bind fun q5 =>
        if q5.1 = 0 then
          some ((-1), q5.2)
        else
          (f_X4_isStoneLawful v1 q5.2).bind fun q6 =>
          some (q6.1, q6.2)
      else
        if v2 = 10 then
          (f_X4_isPlace v1 m).bind fun q7 =>
          if q7.1 = 0 then
            some ((-1), q7.2)
          else
            (f_X10_at 8 v1 q7.2).bind fun q8 =>
            some (q8.1, q8.2)
        else
          if v1 = 0 then
            (f_X10_ofAll v2 m).bind fun q9 =>
            some (q9.1, q9.2)
          else
            some ((-1), m)
set_option maxHeartbeats 4000000 in
set_option maxRecDepth 100000 in
theorem b_X10_of (e : Nat) (hd : 5 ≤ e) (v1 : Int32) (v2 : Int32) (m : ej_M) {x : (Int32 × ej_M)} {res : Option Value × ej_H} {K : (Int32 × ej_M) → Prop} (hf : f_X10_of v1 v2 m = some x) (hK : K x) (h0 : ∀ q : (Int32 × ej_M), K q → res = (some (Value.int q.1), (ej_sh, q.2))) : ej_Z cX10_of 3 (some .int) RX10 "of" (e + 1) 0 [(0, .ref 0), (1, .int v1), (2, .int v2)] [] (ej_sh, m) res := by
  unfold f_X10_of at hf
  refine z_iload_n (pc := 0) (i := 2) (j := 2) dX10_of_0 rfl rfl ?_
  by_cases hs0 : v2 = 0
  · rw [if_pos hs0] at hf
    refine z_lookup (pc := 1) (off := 43) (tgt := 44) dX10_of_1 (by decide) (by rw [hs0]; decide) (by decide) ?_
    refine z_aload_n (pc := 44) (i := 0) (j := 0) dX10_of_44 rfl rfl ?_
    refine z_ogetR (pc := 45) dX10_of_45 lf_RX10_21 sh_0 rfl rfl rfl ?_
    refine z_iload_n (pc := 48) (i := 1) (j := 1) dX10_of_48 rfl rfl ?_
    obtain ⟨q1, hq1, hf⟩ := Option.bind_eq_some_iff.mp hf
    refine z_oVi (pc := 49) (as := [.int v1]) (rest := []) dX10_of_49 lm_RX10_101 mf_X4_has mi_X4_has mv_X4_has rc_6 rfl rfl (Nat.le_of_ble_eq_true rfl) (c_X4_has e (by omega) v1 m hq1) ?_
    refine z_if_eq (pc := 52) (tgt := 66) dX10_of_52 (by decide) (fun hc => ?_) (fun hc => ?_)
    · rw [if_pos hc] at hf
      refine z_iconst (pc := 66) dX10_of_66 ki_n1 ?_
      obtain rfl := Option.some.inj hf
      rw [h0 _ hK]
      exact z_iret dX10_of_67 rfl rfl
    · rw [if_neg hc] at hf
      refine z_aload_n (pc := 55) (i := 0) (j := 0) dX10_of_55 rfl rfl ?_
      refine z_ogetR (pc := 56) dX10_of_56 lf_RX10_21 sh_0 rfl rfl rfl ?_
      refine z_iload_n (pc := 59) (i := 1) (j := 1) dX10_of_59 rfl rfl ?_
      obtain ⟨q2, hq2, hf⟩ := Option.bind_eq_some_iff.mp hf
      refine z_oVi (pc := 60) (as := [.int v1]) (rest := []) dX10_of_60 lm_RX10_109 mf_X4_weightOf mi_X4_weightOf mv_X4_weightOf rc_6 rfl rfl (Nat.le_of_ble_eq_true rfl) (c_X4_weightOf e (by omega) v1 q1.2 hq2) ?_
      refine z_goto (pc := 63) (tgt := 67) dX10_of_63 (by decide) ?_
      obtain rfl := Option.some.inj hf
      rw [h0 _ hK]
      exact z_iret dX10_of_67 rfl rfl
  · rw [if_neg hs0] at hf
    by_cases hs1 : v2 = 1
    · rw [if_pos hs1] at hf
      refine z_lookup (pc := 1) (off := 67) (tgt := 68) dX10_of_1 (by decide) (by rw [hs1]; decide) (by decide) ?_
      refine z_aload_n (pc := 68) (i := 0) (j := 0) dX10_of_68 rfl rfl ?_
      refine z_ogetR (pc := 69) dX10_of_69 lf_RX10_21 sh_0 rfl rfl rfl ?_
      refine z_iload_n (pc := 72) (i := 1) (j := 1) dX10_of_72 rfl rfl ?_
      obtain ⟨q3, hq3, hf⟩ := Option.bind_eq_some_iff.mp hf
      refine z_oVi (pc := 73) (as := [.int v1]) (rest := []) dX10_of_73 lm_RX10_101 mf_X4_has mi_X4_has mv_X4_has rc_6 rfl rfl (Nat.le_of_ble_eq_true rfl) (c_X4_has e (by omega) v1 m hq3) ?_
      refine z_if_eq (pc := 76) (tgt := 90) dX10_of_76 (by decide) (fun hc => ?_) (fun hc => ?_)
      · rw [if_pos hc] at hf
        refine z_iconst (pc := 90) dX10_of_90 ki_n1 ?_
        obtain rfl := Option.some.inj hf
        rw [h0 _ hK]
        exact z_iret dX10_of_91 rfl rfl
      · rw [if_neg hc] at hf
        refine z_aload_n (pc := 79) (i := 0) (j := 0) dX10_of_79 rfl rfl ?_
        refine z_ogetR (pc := 80) dX10_of_80 lf_RX10_21 sh_0 rfl rfl rfl ?_
        refine z_iload_n (pc := 83) (i := 1) (j := 1) dX10_of_83 rfl rfl ?_
        obtain ⟨q4, hq4, hf⟩ := Option.bind_eq_some_iff.mp hf
        refine z_oVi (pc := 84) (as := [.int v1]) (rest := []) dX10_of_84 lm_RX10_112 mf_X4_placeOf mi_X4_placeOf mv_X4_placeOf rc_6 rfl rfl (Nat.le_of_ble_eq_true rfl) (c_X4_placeOf e (by omega) v1 q3.2 hq4) ?_
        refine z_goto (pc := 87) (tgt := 91) dX10_of_87 (by decide) ?_
        obtain rfl := Option.some.inj hf
        rw [h0 _ hK]
        exact z_iret dX10_of_91 rfl rfl
    · rw [if_neg hs1] at hf
      by_cases hs2 : v2 = 2
      · rw [if_pos hs2] at hf
        refine z_lookup (pc := 1) (off := 91) (tgt := 92) dX10_of_1 (by decide) (by rw [hs2]; decide) (by decide) ?_
        refine z_aload_n (pc := 92) (i := 0) (j := 0) dX10_of_92 rfl rfl ?_
        refine z_ogetR (pc := 93) dX10_of_93 lf_RX10_21 sh_0 rfl rfl rfl ?_
        refine z_iload_n (pc := 96) (i := 1) (j := 1) dX10_of_96 rfl rfl ?_
        obtain ⟨q5, hq5, hf⟩ := Option.bind_eq_some_iff.mp hf
        refine z_oVi (pc := 97) (as := [.int v1]) (rest := []) dX10_of_97 lm_RX10_101 mf_X4_has mi_X4_has mv_X4_has rc_6 rfl rfl (Nat.le_of_ble_eq_true rfl) (c_X4_has e (by omega) v1 m hq5) ?_
        refine z_if_eq (pc := 100) (tgt := 114) dX10_of_100 (by decide) (fun hc => ?_) (fun hc => ?_)
        · rw [if_pos hc] at hf
          refine z_iconst (pc := 114) dX10_of_114 ki_n1 ?_
          obtain rfl := Option.some.inj hf
          rw [h0 _ hK]
          exact z_iret dX10_of_115 rfl rfl
        · rw [if_neg hc] at hf
          refine z_aload_n (pc := 103) (i := 0) (j := 0) dX10_of_103 rfl rfl ?_
          refine z_ogetR (pc := 104) dX10_of_104 lf_RX10_21 sh_0 rfl rfl rfl ?_
          refine z_iload_n (pc := 107) (i := 1) (j := 1) dX10_of_107 rfl rfl ?_
          obtain ⟨q6, hq6, hf⟩ := Option.bind_eq_some_iff.mp hf
          refine z_oVi (pc := 108) (as := [.int v1]) (rest := []) dX10_of_108 lm_RX10_115 mf_X4_isStoneLawful mi_X4_isStoneLawful mv_X4_isStoneLawful rc_6 rfl rfl (Nat.le_of_ble_eq_true rfl) (c_X4_isStoneLawful e (by omega) v1 q5.2 hq6) ?_
          refine z_goto (pc := 111) (tgt := 115) dX10_of_111 (by decide) ?_
          obtain rfl := Option.some.inj hf
          rw [h0 _ hK]
          exact z_iret dX10_of_115 rfl rfl
      · rw [if_neg hs2] at hf
        by_cases hs10 : v2 = 10
        · rw [if_pos hs10] at hf
          refine z_lookup (pc := 1) (off := 115) (tgt := 116) dX10_of_1 (by decide) (by rw [hs10]; decide) (by decide) ?_
          refine z_aload_n (pc := 116) (i := 0) (j := 0) dX10_of_116 rfl rfl ?_
          refine z_ogetR (pc := 117) dX10_of_117 lf_RX10_21 sh_0 rfl rfl rfl ?_
          refine z_iload_n (pc := 120) (i := 1) (j := 1) dX10_of_120 rfl rfl ?_
          obtain ⟨q7, hq7, hf⟩ := Option.bind_eq_some_iff.mp hf
          refine z_oVi (pc := 121) (as := [.int v1]) (rest := []) dX10_of_121 lm_RX10_118 mf_X4_isPlace mi_X4_isPlace mv_X4_isPlace rc_6 rfl rfl (Nat.le_of_ble_eq_true rfl) (c_X4_isPlace e (by omega) v1 m hq7) ?_
          refine z_if_eq (pc := 124) (tgt := 141) dX10_of_124 (by decide) (fun hc => ?_) (fun hc => ?_)
          · rw [if_pos hc] at hf
            refine z_iconst (pc := 141) dX10_of_141 ki_n1 ?_
            obtain rfl := Option.some.inj hf
            rw [h0 _ hK]
            exact z_iret dX10_of_142 rfl rfl
          · rw [if_neg hc] at hf
            refine z_aload_n (pc := 127) (i := 0) (j := 0) dX10_of_127 rfl rfl ?_
            refine z_ogetR (pc := 128) dX10_of_128 lf_RX10_21 sh_0 rfl rfl rfl ?_
            refine z_ogetR (pc := 131) dX10_of_131 lf_RX10_121 sh_6 rfl rfl rfl ?_
            refine z_iload_n (pc := 134) (i := 1) (j := 1) dX10_of_134 rfl rfl ?_
            obtain ⟨q8, hq8, hf⟩ := Option.bind_eq_some_iff.mp hf
            refine z_oSi (pc := 135) (as := [.ref 8, .int v1]) (rest := []) dX10_of_135 lm_RX10_125 mf_X10_at ms_X10_at rfl rfl (Nat.le_of_ble_eq_true rfl) (c_X10_at e (by omega) 8 v1 q7.2 hq8) ?_
            refine z_goto (pc := 138) (tgt := 142) dX10_of_138 (by decide) ?_
            obtain rfl := Option.some.inj hf
            rw [h0 _ hK]
            exact z_iret dX10_of_142 rfl rfl
        · rw [if_neg hs10] at hf
          refine z_lookup (pc := 1) (off := 142) (tgt := 143) dX10_of_1 (by decide) ((lv_osw hs0 (show (0 : Int32).toInt = 0 by decide)).trans ((lv_osw hs1 (show (1 : Int32).toInt = 1 by decide)).trans ((lv_osw hs2 (show (2 : Int32).toInt = 2 by decide)).trans ((lv_osw hs10 (show (10 : Int32).toInt = 10 by decide)).trans (rfl))))) (by decide) ?_
          refine z_iload_n (pc := 143) (i := 1) (j := 1) dX10_of_143 rfl rfl ?_
          refine z_if_ne (pc := 144) (tgt := 155) dX10_of_144 (by decide) (fun hc => ?_) (fun hc => ?_)
          · rw [if_neg hc] at hf
            refine z_iconst (pc := 155) dX10_of_155 ki_n1 ?_
            obtain rfl := Option.some.inj hf
            rw [h0 _ hK]
            exact z_iret dX10_of_156 rfl rfl
          · rw [if_pos hc] at hf
            refine z_aload_n (pc := 147) (i := 0) (j := 0) dX10_of_147 rfl rfl ?_
            refine z_iload_n (pc := 148) (i := 2) (j := 2) dX10_of_148 rfl rfl ?_
            obtain ⟨q9, hq9, hf⟩ := Option.bind_eq_some_iff.mp hf
            refine z_oVi (pc := 149) (as := [.int v2]) (rest := []) dX10_of_149 lm_RX10_129 mf_X10_ofAll mi_X10_ofAll mv_X10_ofAll rc_0 rfl rfl (Nat.le_of_ble_eq_true rfl) (c_X10_ofAll e (by omega) v2 m hq9) ?_
            refine z_goto (pc := 152) (tgt := 156) dX10_of_152 (by decide) ?_
            obtain rfl := Option.some.inj hf
            rw [h0 _ hK]
            exact z_iret dX10_of_156 rfl rfl
set_option maxHeartbeats 4000000 in
set_option maxRecDepth 100000 in
theorem c_X10_of (d : Nat) (hd : 6 ≤ d) (v1 : Int32) (v2 : Int32) (m : ej_M) {q : (Int32 × ej_M)} (hf : f_X10_of v1 v2 m = some q) : ej_Ct yX10_of cX10_of 3 (some .int) d [.ref 0, .int v1, .int v2] (ej_sh, m) ((some (Value.int q.1), (ej_sh, q.2)) : Option Value × ej_H) := by
  obtain ⟨e, rfl⟩ : ∃ e, d = e + 1 := ⟨d - 1, by omega⟩
  exact z_met (by decide +kernel) (Nat.le_of_ble_eq_true rfl) (b_X10_of e (by omega) v1 v2 m (K := fun z => ((some (Value.int q.1), (ej_sh, q.2)) : Option Value × ej_H) = (some (Value.int z.1), (ej_sh, z.2))) hf rfl (fun _ h => h))
def f_X11_twoOf (v0 : Int32) (v1 : Int32) (v2 : Int32) (m : ej_M) : Option (Int32 × ej_M) :=
  if v0 = 37 then
    if v2 = 0 then
      some (0, m)
    else
      if v2 = (-1) then
        some (0, m)
      else
        (oj_rm v1 v2).bind fun w1 =>
        some (w1, m)
  else
    if v0 = 38 then
      if v1 = 0 then
        some (0, m)
      else
        if v2 = 0 then
          some (0, m)
        else
          some (1, m)
    else
      if v0 = 42 then
        some ((v1 * v2), m)
      else
        if v0 = 43 then
          some ((v1 + v2), m)
        else
          if v0 = 45 then
            some ((v1 - v2), m)
          else
            if v0 = 47 then
              if v2 = 0 then
                some (0, m)
              else
                if v2 = (-1) then
                  some ((-v1), m)
                else
                  (oj_dv v1 v2).bind fun w2 =>
                  some (w2, m)
            else
              if v0 = 60 then
                if v2 ≤ v1 then
                  some (0, m)
                else
                  some (1, m)
              else
                if v0 = 61 then
                  if v1 = v2 then
                    some (1, m)
                  else
                    some (0, m)
                else
                  if v0 = 62 then
                    if v1 ≤ v2 then
                      some (0, m)
                    else
                      some (1, m)
                  else
                    if v1 = 0 then
                      if v2 = 0 then
                        some (0, m)
                      else
                        some (1, m)
                    else
                      some (1, m)
set_option maxHeartbeats 4000000 in
set_option maxRecDepth 100000 in
theorem b_X11_twoOf (d : Nat) (v0 : Int32) (v1 : Int32) (v2 : Int32) (m : ej_M) {x : (Int32 × ej_M)} {res : Option Value × ej_H} {K : (Int32 × ej_M) → Prop} (hf : f_X11_twoOf v0 v1 v2 m = some x) (hK : K x) (h0 : ∀ q : (Int32 × ej_M), K q → res = (some (Value.int q.1), (ej_sh, q.2))) : ej_Z cX11_twoOf 3 (some .int) RX11 "twoOf" d 0 [(0, .int v0), (1, .int v1), (2, .int v2)] [] (ej_sh, m) res := by
  unfold f_X11_twoOf at hf
  refine z_iload_n (pc := 0) (i := 0) (j := 0) dX11_twoOf_0 rfl rfl ?_
  by_cases hs37 : v0 = 37
  · rw [if_pos hs37] at hf
    refine z_tabIn (pc := 1) (off := 153) (tgt := 154) dX11_twoOf_1 (by rw [hs37]; decide) (by rw [hs37]; decide) (by rw [hs37]; rfl) (by decide) ?_
    refine z_iload_n (pc := 154) (i := 2) (j := 2) dX11_twoOf_154 rfl rfl ?_
    refine z_if_eq (pc := 155) (tgt := 163) dX11_twoOf_155 (by decide) (fun hc => ?_) (fun hc => ?_)
    · rw [if_pos hc] at hf
      refine z_iconst (pc := 163) dX11_twoOf_163 ki_0 ?_
      refine z_goto (pc := 164) (tgt := 170) dX11_twoOf_164 (by decide) ?_
      obtain rfl := Option.some.inj hf
      rw [h0 _ hK]
      exact z_iret dX11_twoOf_170 rfl rfl
    · rw [if_neg hc] at hf
      refine z_iload_n (pc := 158) (i := 2) (j := 2) dX11_twoOf_158 rfl rfl ?_
      refine z_iconst (pc := 159) dX11_twoOf_159 ki_n1 ?_
      refine z_icmp_ne (pc := 160) (tgt := 167) dX11_twoOf_160 (by decide) (fun hc => ?_) (fun hc => ?_)
      · rw [if_neg hc] at hf
        refine z_iload_n (pc := 167) (i := 1) (j := 1) dX11_twoOf_167 rfl rfl ?_
        refine z_iload_n (pc := 168) (i := 2) (j := 2) dX11_twoOf_168 rfl rfl ?_
        obtain ⟨w1, hw1, hf⟩ := Option.bind_eq_some_iff.mp hf
        refine z_orem (pc := 169) dX11_twoOf_169 hw1 ?_
        obtain rfl := Option.some.inj hf
        rw [h0 _ hK]
        exact z_iret dX11_twoOf_170 rfl rfl
      · rw [if_pos hc] at hf
        refine z_iconst (pc := 163) dX11_twoOf_163 ki_0 ?_
        refine z_goto (pc := 164) (tgt := 170) dX11_twoOf_164 (by decide) ?_
        obtain rfl := Option.some.inj hf
        rw [h0 _ hK]
        exact z_iret dX11_twoOf_170 rfl rfl
  · rw [if_neg hs37] at hf
    by_cases hs38 : v0 = 38
    · rw [if_pos hs38] at hf
      refine z_tabIn (pc := 1) (off := 203) (tgt := 204) dX11_twoOf_1 (by rw [hs38]; decide) (by rw [hs38]; decide) (by rw [hs38]; rfl) (by decide) ?_
      refine z_iload_n (pc := 204) (i := 1) (j := 1) dX11_twoOf_204 rfl rfl ?_
      refine z_if_eq (pc := 205) (tgt := 216) dX11_twoOf_205 (by decide) (fun hc => ?_) (fun hc => ?_)
      · rw [if_pos hc] at hf
        refine z_iconst (pc := 216) dX11_twoOf_216 ki_0 ?_
        obtain rfl := Option.some.inj hf
        rw [h0 _ hK]
        exact z_iret dX11_twoOf_217 rfl rfl
      · rw [if_neg hc] at hf
        refine z_iload_n (pc := 208) (i := 2) (j := 2) dX11_twoOf_208 rfl rfl ?_
        refine z_if_eq (pc := 209) (tgt := 216) dX11_twoOf_209 (by decide) (fun hc => ?_) (fun hc => ?_)
        · rw [if_pos hc] at hf
          refine z_iconst (pc := 216) dX11_twoOf_216 ki_0 ?_
          obtain rfl := Option.some.inj hf
          rw [h0 _ hK]
          exact z_iret dX11_twoOf_217 rfl rfl
        · rw [if_neg hc] at hf
          refine z_iconst (pc := 212) dX11_twoOf_212 ki_1 ?_
          refine z_goto (pc := 213) (tgt := 217) dX11_twoOf_213 (by decide) ?_
          obtain rfl := Option.some.inj hf
          rw [h0 _ hK]
          exact z_iret dX11_twoOf_217 rfl rfl
    · rw [if_neg hs38] at hf
      by_cases hs42 : v0 = 42
      · rw [if_pos hs42] at hf
        refine z_tabIn (pc := 1) (off := 127) (tgt := 128) dX11_twoOf_1 (by rw [hs42]; decide) (by rw [hs42]; decide) (by rw [hs42]; rfl) (by decide) ?_
        refine z_iload_n (pc := 128) (i := 1) (j := 1) dX11_twoOf_128 rfl rfl ?_
        refine z_iload_n (pc := 129) (i := 2) (j := 2) dX11_twoOf_129 rfl rfl ?_
        refine z_imul (pc := 130) dX11_twoOf_130 ?_
        obtain rfl := Option.some.inj hf
        rw [h0 _ hK]
        exact z_iret dX11_twoOf_131 rfl rfl
      · rw [if_neg hs42] at hf
        by_cases hs43 : v0 = 43
        · rw [if_pos hs43] at hf
          refine z_tabIn (pc := 1) (off := 119) (tgt := 120) dX11_twoOf_1 (by rw [hs43]; decide) (by rw [hs43]; decide) (by rw [hs43]; rfl) (by decide) ?_
          refine z_iload_n (pc := 120) (i := 1) (j := 1) dX11_twoOf_120 rfl rfl ?_
          refine z_iload_n (pc := 121) (i := 2) (j := 2) dX11_twoOf_121 rfl rfl ?_
          refine z_iadd (pc := 122) dX11_twoOf_122 ?_
          obtain rfl := Option.some.inj hf
          rw [h0 _ hK]
          exact z_iret dX11_twoOf_123 rfl rfl
        · rw [if_neg hs43] at hf
          by_cases hs45 : v0 = 45
          · rw [if_pos hs45] at hf
            refine z_tabIn (pc := 1) (off := 123) (tgt := 124) dX11_twoOf_1 (by rw [hs45]; decide) (by rw [hs45]; decide) (by rw [hs45]; rfl) (by decide) ?_
            refine z_iload_n (pc := 124) (i := 1) (j := 1) dX11_twoOf_124 rfl rfl ?_
            refine z_iload_n (pc := 125) (i := 2) (j := 2) dX11_twoOf_125 rfl rfl ?_
            refine z_isub (pc := 126) dX11_twoOf_126 ?_
            obtain rfl := Option.some.inj hf
            rw [h0 _ hK]
            exact z_iret dX11_twoOf_127 rfl rfl
          · rw [if_neg hs45] at hf
            by_cases hs47 : v0 = 47
            · rw [if_pos hs47] at hf
              refine z_tabIn (pc := 1) (off := 131) (tgt := 132) dX11_twoOf_1 (by rw [hs47]; decide) (by rw [hs47]; decide) (by rw [hs47]; rfl) (by decide) ?_
              refine z_iload_n (pc := 132) (i := 2) (j := 2) dX11_twoOf_132 rfl rfl ?_
              refine z_if_ne (pc := 133) (tgt := 140) dX11_twoOf_133 (by decide) (fun hc => ?_) (fun hc => ?_)
              · rw [if_neg hc] at hf
                refine z_iload_n (pc := 140) (i := 2) (j := 2) dX11_twoOf_140 rfl rfl ?_
                refine z_iconst (pc := 141) dX11_twoOf_141 ki_n1 ?_
                refine z_icmp_ne (pc := 142) (tgt := 150) dX11_twoOf_142 (by decide) (fun hc => ?_) (fun hc => ?_)
                · rw [if_neg hc] at hf
                  refine z_iload_n (pc := 150) (i := 1) (j := 1) dX11_twoOf_150 rfl rfl ?_
                  refine z_iload_n (pc := 151) (i := 2) (j := 2) dX11_twoOf_151 rfl rfl ?_
                  obtain ⟨w2, hw2, hf⟩ := Option.bind_eq_some_iff.mp hf
                  refine z_odiv (pc := 152) dX11_twoOf_152 hw2 ?_
                  obtain rfl := Option.some.inj hf
                  rw [h0 _ hK]
                  exact z_iret dX11_twoOf_153 rfl rfl
                · rw [if_pos hc] at hf
                  refine z_iload_n (pc := 145) (i := 1) (j := 1) dX11_twoOf_145 rfl rfl ?_
                  refine z_ineg (pc := 146) dX11_twoOf_146 ?_
                  refine z_goto (pc := 147) (tgt := 153) dX11_twoOf_147 (by decide) ?_
                  obtain rfl := Option.some.inj hf
                  rw [h0 _ hK]
                  exact z_iret dX11_twoOf_153 rfl rfl
              · rw [if_pos hc] at hf
                refine z_iconst (pc := 136) dX11_twoOf_136 ki_0 ?_
                refine z_goto (pc := 137) (tgt := 153) dX11_twoOf_137 (by decide) ?_
                obtain rfl := Option.some.inj hf
                rw [h0 _ hK]
                exact z_iret dX11_twoOf_153 rfl rfl
            · rw [if_neg hs47] at hf
              by_cases hs60 : v0 = 60
              · rw [if_pos hs60] at hf
                refine z_tabIn (pc := 1) (off := 170) (tgt := 171) dX11_twoOf_1 (by rw [hs60]; decide) (by rw [hs60]; decide) (by rw [hs60]; rfl) (by decide) ?_
                refine z_iload_n (pc := 171) (i := 1) (j := 1) dX11_twoOf_171 rfl rfl ?_
                refine z_iload_n (pc := 172) (i := 2) (j := 2) dX11_twoOf_172 rfl rfl ?_
                refine z_icmp_ge (pc := 173) (tgt := 180) dX11_twoOf_173 (by decide) (fun hc => ?_) (fun hc => ?_)
                · rw [if_pos hc] at hf
                  refine z_iconst (pc := 180) dX11_twoOf_180 ki_0 ?_
                  obtain rfl := Option.some.inj hf
                  rw [h0 _ hK]
                  exact z_iret dX11_twoOf_181 rfl rfl
                · rw [if_neg hc] at hf
                  refine z_iconst (pc := 176) dX11_twoOf_176 ki_1 ?_
                  refine z_goto (pc := 177) (tgt := 181) dX11_twoOf_177 (by decide) ?_
                  obtain rfl := Option.some.inj hf
                  rw [h0 _ hK]
                  exact z_iret dX11_twoOf_181 rfl rfl
              · rw [if_neg hs60] at hf
                by_cases hs61 : v0 = 61
                · rw [if_pos hs61] at hf
                  refine z_tabIn (pc := 1) (off := 181) (tgt := 182) dX11_twoOf_1 (by rw [hs61]; decide) (by rw [hs61]; decide) (by rw [hs61]; rfl) (by decide) ?_
                  refine z_iload_n (pc := 182) (i := 1) (j := 1) dX11_twoOf_182 rfl rfl ?_
                  refine z_iload_n (pc := 183) (i := 2) (j := 2) dX11_twoOf_183 rfl rfl ?_
                  refine z_icmp_ne (pc := 184) (tgt := 191) dX11_twoOf_184 (by decide) (fun hc => ?_) (fun hc => ?_)
                  · rw [if_neg hc] at hf
                    refine z_iconst (pc := 191) dX11_twoOf_191 ki_0 ?_
                    obtain rfl := Option.some.inj hf
                    rw [h0 _ hK]
                    exact z_iret dX11_twoOf_192 rfl rfl
                  · rw [if_pos hc] at hf
                    refine z_iconst (pc := 187) dX11_twoOf_187 ki_1 ?_
                    refine z_goto (pc := 188) (tgt := 192) dX11_twoOf_188 (by decide) ?_
                    obtain rfl := Option.some.inj hf
                    rw [h0 _ hK]
                    exact z_iret dX11_twoOf_192 rfl rfl
                · rw [if_neg hs61] at hf
                  by_cases hs62 : v0 = 62
                  · rw [if_pos hs62] at hf
                    refine z_tabIn (pc := 1) (off := 192) (tgt := 193) dX11_twoOf_1 (by rw [hs62]; decide) (by rw [hs62]; decide) (by rw [hs62]; rfl) (by decide) ?_
                    refine z_iload_n (pc := 193) (i := 1) (j := 1) dX11_twoOf_193 rfl rfl ?_
                    refine z_iload_n (pc := 194) (i := 2) (j := 2) dX11_twoOf_194 rfl rfl ?_
                    refine z_icmp_le (pc := 195) (tgt := 202) dX11_twoOf_195 (by decide) (fun hc => ?_) (fun hc => ?_)
                    · rw [if_pos hc] at hf
                      refine z_iconst (pc := 202) dX11_twoOf_202 ki_0 ?_
                      obtain rfl := Option.some.inj hf
                      rw [h0 _ hK]
                      exact z_iret dX11_twoOf_203 rfl rfl
                    · rw [if_neg hc] at hf
                      refine z_iconst (pc := 198) dX11_twoOf_198 ki_1 ?_
                      refine z_goto (pc := 199) (tgt := 203) dX11_twoOf_199 (by decide) ?_
                      obtain rfl := Option.some.inj hf
                      rw [h0 _ hK]
                      exact z_iret dX11_twoOf_203 rfl rfl
                  · rw [if_neg hs62] at hf
                    refine z_tabD (pc := 1) (tgt := 218) dX11_twoOf_1 (by decide) (fun k hk => ?_) (by decide) ?_
                    · have hk9 : k = 0 ∨ k = 1 ∨ k = 2 ∨ k = 3 ∨ k = 4 ∨ k = 5 ∨ k = 6 ∨ k = 7 ∨ k = 8 ∨ k = 9 ∨ k = 10 ∨ k = 11 ∨ k = 12 ∨ k = 13 ∨ k = 14 ∨ k = 15 ∨ k = 16 ∨ k = 17 ∨ k = 18 ∨ k = 19 ∨ k = 20 ∨ k = 21 ∨ k = 22 ∨ k = 23 ∨ k = 24 ∨ k = 25 := by have hk8 : k < 26 := hk; omega
                      rcases hk9 with rfl | rfl | rfl | rfl | rfl | rfl | rfl | rfl | rfl | rfl | rfl | rfl | rfl | rfl | rfl | rfl | rfl | rfl | rfl | rfl | rfl | rfl | rfl | rfl | rfl | rfl
                      · exact Or.inr (by have := lv_neT hs37 (show (37 : Int32).toInt = 37 by decide); omega)
                      · exact Or.inr (by have := lv_neT hs38 (show (38 : Int32).toInt = 38 by decide); omega)
                      · exact Or.inl rfl
                      · exact Or.inl rfl
                      · exact Or.inl rfl
                      · exact Or.inr (by have := lv_neT hs42 (show (42 : Int32).toInt = 42 by decide); omega)
                      · exact Or.inr (by have := lv_neT hs43 (show (43 : Int32).toInt = 43 by decide); omega)
                      · exact Or.inl rfl
                      · exact Or.inr (by have := lv_neT hs45 (show (45 : Int32).toInt = 45 by decide); omega)
                      · exact Or.inl rfl
                      · exact Or.inr (by have := lv_neT hs47 (show (47 : Int32).toInt = 47 by decide); omega)
                      · exact Or.inl rfl
                      · exact Or.inl rfl
                      · exact Or.inl rfl
                      · exact Or.inl rfl
                      · exact Or.inl rfl
                      · exact Or.inl rfl
                      · exact Or.inl rfl
                      · exact Or.inl rfl
                      · exact Or.inl rfl
                      · exact Or.inl rfl
                      · exact Or.inl rfl
                      · exact Or.inl rfl
                      · exact Or.inr (by have := lv_neT hs60 (show (60 : Int32).toInt = 60 by decide); omega)
                      · exact Or.inr (by have := lv_neT hs61 (show (61 : Int32).toInt = 61 by decide); omega)
                      · exact Or.inr (by have := lv_neT hs62 (show (62 : Int32).toInt = 62 by decide); omega)
                    refine z_iload_n (pc := 218) (i := 1) (j := 1) dX11_twoOf_218 rfl rfl ?_
                    refine z_if_ne (pc := 219) (tgt := 226) dX11_twoOf_219 (by decide) (fun hc => ?_) (fun hc => ?_)
                    · rw [if_neg hc] at hf
                      refine z_iconst (pc := 226) dX11_twoOf_226 ki_1 ?_
                      refine z_goto (pc := 227) (tgt := 231) dX11_twoOf_227 (by decide) ?_
                      obtain rfl := Option.some.inj hf
                      rw [h0 _ hK]
                      exact z_iret dX11_twoOf_231 rfl rfl
                    · rw [if_pos hc] at hf
                      refine z_iload_n (pc := 222) (i := 2) (j := 2) dX11_twoOf_222 rfl rfl ?_
                      refine z_if_eq (pc := 223) (tgt := 230) dX11_twoOf_223 (by decide) (fun hc => ?_) (fun hc => ?_)
                      · rw [if_pos hc] at hf
                        refine z_iconst (pc := 230) dX11_twoOf_230 ki_0 ?_
                        obtain rfl := Option.some.inj hf
                        rw [h0 _ hK]
                        exact z_iret dX11_twoOf_231 rfl rfl
                      · rw [if_neg hc] at hf
                        refine z_iconst (pc := 226) dX11_twoOf_226 ki_1 ?_
                        refine z_goto (pc := 227) (tgt := 231) dX11_twoOf_227 (by decide) ?_
                        obtain rfl := Option.some.inj hf
                        rw [h0 _ hK]
                        exact z_iret dX11_twoOf_231 rfl rfl
set_option maxHeartbeats 4000000 in
set_option maxRecDepth 100000 in
theorem c_X11_twoOf (d : Nat) (hd : 0 ≤ d) (v0 : Int32) (v1 : Int32) (v2 : Int32) (m : ej_M) {q : (Int32 × ej_M)} (hf : f_X11_twoOf v0 v1 v2 m = some q) : ej_Ct yX11_twoOf cX11_twoOf 3 (some .int) d [.int v0, .int v1, .int v2] (ej_sh, m) ((some (Value.int q.1), (ej_sh, q.2)) : Option Value × ej_H) := by
  exact z_met (by decide +kernel) (Nat.le_of_ble_eq_true rfl) (b_X11_twoOf d v0 v1 v2 m (K := fun z => ((some (Value.int q.1), (ej_sh, q.2)) : Option Value × ej_H) = (some (Value.int z.1), (ej_sh, z.2))) hf rfl (fun _ h => h))
def f_X11_worked_B79 (v1 : Int32) (v3 : Int32) (v4 : Int32) (v5 : Int32) (s0 : Int32) (s1 : Int32) (m : ej_M) : Option ((Int32 × Int32 × ej_M) ⊕ (Int32 × ej_M)) :=
  (oj_st 0 m 55 s1 s0).bind fun m1 =>
  some (Sum.inl ((v4 + 1), (v5 + 1), m1))
set_option maxHeartbeats 4000000 in
set_option maxRecDepth 100000 in
theorem b_X11_worked_B79 (e : Nat) (hd : 0 ≤ e) (v1 : Int32) (v3 : Int32) (v4 : Int32) (v5 : Int32) (s0 : Int32) (s1 : Int32) (m : ej_M) {x : ((Int32 × Int32 × ej_M) ⊕ (Int32 × ej_M))} {res : Option Value × ej_H} {K : ((Int32 × Int32 × ej_M) ⊕ (Int32 × ej_M)) → Prop} (hf : f_X11_worked_B79 v1 v3 v4 v5 s0 s1 m = some x) (hK : K x) (h1 : ∀ q : (Int32 × Int32 × ej_M), K (Sum.inl q) → ej_Z cX11_worked 7 (some .int) RX11 "worked" (e + 1) 12 [(0, .ref 41), (1, .int v1), (3, .int v3), (4, .int q.1), (5, .int q.2.1)] [] (ej_sh, q.2.2) res) (h0 : ∀ q : (Int32 × ej_M), K (Sum.inr q) → res = (some (Value.int q.1), (ej_sh, q.2))) : ej_Z cX11_worked 7 (some .int) RX11 "worked" (e + 1) 79 [(0, .ref 41), (1, .int v1), (3, .int v3), (4, .int v4), (5, .int v5)] [.int s0, .int s1, .ref 55] (ej_sh, m) res := by
  unfold f_X11_worked_B79 at hf
  obtain ⟨m1, hm1, hf⟩ := Option.bind_eq_some_iff.mp hf
  refine z_oiast (pc := 79) dX11_worked_79 hm1 ?_
  refine z_iinc (pc := 80) (j := 3) (ls' := [(4, .int (v4 + 1)), (0, .ref 41), (1, .int v1), (3, .int v3), (5, .int v5)]) dX11_worked_80 rfl ki_1 (Nat.le_of_ble_eq_true rfl) rfl ?_
  refine z_goto (pc := 83) (tgt := 182) dX11_worked_83 (by decide) ?_
  refine z_iinc (pc := 182) (j := 4) (ls' := [(5, .int (v5 + 1)), (4, .int (v4 + 1)), (0, .ref 41), (1, .int v1), (3, .int v3)]) dX11_worked_182 rfl ki_1 (Nat.le_of_ble_eq_true rfl) rfl ?_
  refine z_goto (pc := 185) (tgt := 12) dX11_worked_185 (by decide) ?_
  obtain rfl := Option.some.inj hf
  exact z_pick (ls' := [(0, .ref 41), (1, .int v1), (3, .int v3), (4, .int (v4 + 1)), (5, .int (v5 + 1))]) [2, 3, 4, 1, 0] rfl (h1 ((v4 + 1), (v5 + 1), m1) hK)
def f_X11_worked_B45 (v1 : Int32) (v3 : Int32) (v4 : Int32) (v5 : Int32) (v6 : Int32) (m : ej_M) : Option ((Int32 × Int32 × ej_M) ⊕ (Int32 × ej_M)) :=
  if v6 = 1 then
    (oj_ld 0 m 50 v5).bind fun w3 =>
    f_X11_worked_B79 v1 v3 v4 v5 w3 v4 m
  else
    (oj_ld 0 m 50 v5).bind fun w1 =>
    (oj_ld 0 m 54 w1).bind fun w2 =>
    f_X11_worked_B79 v1 v3 v4 v5 w2 v4 m
set_option maxHeartbeats 4000000 in
set_option maxRecDepth 100000 in
theorem b_X11_worked_B45 (e : Nat) (hd : 0 ≤ e) (v1 : Int32) (v3 : Int32) (v4 : Int32) (v5 : Int32) (v6 : Int32) (m : ej_M) {x : ((Int32 × Int32 × ej_M) ⊕ (Int32 × ej_M))} {res : Option Value × ej_H} {K : ((Int32 × Int32 × ej_M) ⊕ (Int32 × ej_M)) → Prop} (hf : f_X11_worked_B45 v1 v3 v4 v5 v6 m = some x) (hK : K x) (h1 : ∀ q : (Int32 × Int32 × ej_M), K (Sum.inl q) → ej_Z cX11_worked 7 (some .int) RX11 "worked" (e + 1) 12 [(0, .ref 41), (1, .int v1), (3, .int v3), (4, .int q.1), (5, .int q.2.1)] [] (ej_sh, q.2.2) res) (h0 : ∀ q : (Int32 × ej_M), K (Sum.inr q) → res = (some (Value.int q.1), (ej_sh, q.2))) : ej_Z cX11_worked 7 (some .int) RX11 "worked" (e + 1) 45 [(0, .ref 41), (1, .int v1), (3, .int v3), (4, .int v4), (5, .int v5), (6, .int v6)] [] (ej_sh, m) res := by
  unfold f_X11_worked_B45 at hf
  refine z_aload_n (pc := 45) (i := 0) (j := 0) dX11_worked_45 rfl rfl ?_
  refine z_ogetR (pc := 46) dX11_worked_46 lf_RX11_51 sh_41 rfl rfl rfl ?_
  refine z_iload (pc := 49) (i := 4) (j := 3) dX11_worked_49 rfl ?_
  refine z_iload (pc := 51) (i := 6) (j := 5) dX11_worked_51 rfl ?_
  refine z_iconst (pc := 53) dX11_worked_53 ki_1 ?_
  refine z_icmp_ne (pc := 54) (tgt := 67) dX11_worked_54 (by decide) (fun hc => ?_) (fun hc => ?_)
  · rw [if_neg hc] at hf
    refine z_aload_n (pc := 67) (i := 0) (j := 0) dX11_worked_67 rfl rfl ?_
    refine z_ogetR (pc := 68) dX11_worked_68 lf_RX11_48 sh_41 rfl rfl rfl ?_
    refine z_aload_n (pc := 71) (i := 0) (j := 0) dX11_worked_71 rfl rfl ?_
    refine z_ogetR (pc := 72) dX11_worked_72 lf_RX11_35 sh_41 rfl rfl rfl ?_
    refine z_iload (pc := 75) (i := 5) (j := 4) dX11_worked_75 rfl ?_
    obtain ⟨w1, hw1, hf⟩ := Option.bind_eq_some_iff.mp hf
    refine z_oiald (pc := 77) dX11_worked_77 hw1 ?_
    obtain ⟨w2, hw2, hf⟩ := Option.bind_eq_some_iff.mp hf
    refine z_oiald (pc := 78) dX11_worked_78 hw2 ?_
    exact z_pick [0, 1, 2, 3, 4] rfl (b_X11_worked_B79 e hd v1 v3 v4 v5 w2 v4 m (K := K) hf hK h1 h0)
  · rw [if_pos hc] at hf
    refine z_aload_n (pc := 57) (i := 0) (j := 0) dX11_worked_57 rfl rfl ?_
    refine z_ogetR (pc := 58) dX11_worked_58 lf_RX11_35 sh_41 rfl rfl rfl ?_
    refine z_iload (pc := 61) (i := 5) (j := 4) dX11_worked_61 rfl ?_
    obtain ⟨w3, hw3, hf⟩ := Option.bind_eq_some_iff.mp hf
    refine z_oiald (pc := 63) dX11_worked_63 hw3 ?_
    refine z_goto (pc := 64) (tgt := 79) dX11_worked_64 (by decide) ?_
    exact z_pick [0, 1, 2, 3, 4] rfl (b_X11_worked_B79 e hd v1 v3 v4 v5 w3 v4 m (K := K) hf hK h1 h0)
def f_X11_worked_B117 (v1 : Int32) (v3 : Int32) (v4 : Int32) (v5 : Int32) (s0 : Int32) (s1 : Int32) (m : ej_M) : Option ((Int32 × Int32 × ej_M) ⊕ (Int32 × ej_M)) :=
  (oj_st 0 m 55 s1 s0).bind fun m1 =>
  some (Sum.inl (v4, (v5 + 1), m1))
set_option maxHeartbeats 4000000 in
set_option maxRecDepth 100000 in
theorem b_X11_worked_B117 (e : Nat) (hd : 0 ≤ e) (v1 : Int32) (v3 : Int32) (v4 : Int32) (v5 : Int32) (s0 : Int32) (s1 : Int32) (m : ej_M) {x : ((Int32 × Int32 × ej_M) ⊕ (Int32 × ej_M))} {res : Option Value × ej_H} {K : ((Int32 × Int32 × ej_M) ⊕ (Int32 × ej_M)) → Prop} (hf : f_X11_worked_B117 v1 v3 v4 v5 s0 s1 m = some x) (hK : K x) (h1 : ∀ q : (Int32 × Int32 × ej_M), K (Sum.inl q) → ej_Z cX11_worked 7 (some .int) RX11 "worked" (e + 1) 12 [(0, .ref 41), (1, .int v1), (3, .int v3), (4, .int q.1), (5, .int q.2.1)] [] (ej_sh, q.2.2) res) (h0 : ∀ q : (Int32 × ej_M), K (Sum.inr q) → res = (some (Value.int q.1), (ej_sh, q.2))) : ej_Z cX11_worked 7 (some .int) RX11 "worked" (e + 1) 117 [(0, .ref 41), (1, .int v1), (3, .int v3), (4, .int v4), (5, .int v5)] [.int s0, .int s1, .ref 55] (ej_sh, m) res := by
  unfold f_X11_worked_B117 at hf
  obtain ⟨m1, hm1, hf⟩ := Option.bind_eq_some_iff.mp hf
  refine z_oiast (pc := 117) dX11_worked_117 hm1 ?_
  refine z_goto (pc := 118) (tgt := 182) dX11_worked_118 (by decide) ?_
  refine z_iinc (pc := 182) (j := 4) (ls' := [(5, .int (v5 + 1)), (0, .ref 41), (1, .int v1), (3, .int v3), (4, .int v4)]) dX11_worked_182 rfl ki_1 (Nat.le_of_ble_eq_true rfl) rfl ?_
  refine z_goto (pc := 185) (tgt := 12) dX11_worked_185 (by decide) ?_
  obtain rfl := Option.some.inj hf
  exact z_pick (ls' := [(0, .ref 41), (1, .int v1), (3, .int v3), (4, .int v4), (5, .int (v5 + 1))]) [1, 2, 3, 4, 0] rfl (h1 (v4, (v5 + 1), m1) hK)
def f_X11_worked_L12b (v1 : Int32) (v3 : Int32) (v4 : Int32) (v5 : Int32) (m : ej_M) : Option ((Int32 × Int32 × ej_M) ⊕ (Int32 × ej_M)) :=
  if ((130 * v1) + v3) ≤ v5 then
    (oj_ld 0 m 55 0).bind fun w1 =>
    some (Sum.inr (w1, m))
  else
    (oj_ld 1 m 49 v5).bind fun w2 =>
    if w2 = 1 then
      f_X11_worked_B45 v1 v3 v4 v5 w2 m
    else
      if w2 = 2 then
        f_X11_worked_B45 v1 v3 v4 v5 w2 m
      else
        if w2 = 3 then
          (oj_ld 0 m 55 (v4 - 1)).bind fun w9 =>
          if w9 = 0 then
            f_X11_worked_B117 v1 v3 v4 v5 1 (v4 - 1) m
          else
            f_X11_worked_B117 v1 v3 v4 v5 0 (v4 - 1) m
        else
          if w2 = 4 then
            (oj_ld 0 m 55 (v4 - 1)).bind fun w7 =>
            (oj_st 0 m 55 (v4 - 1) (-w7)).bind fun m8 =>
            some (Sum.inl (v4, (v5 + 1), m8))
          else
            (oj_ld 0 m 55 ((v4 + (-1)) - 1)).bind fun w3 =>
            (oj_ld 0 m 55 (v4 + (-1))).bind fun w4 =>
            (f_X11_twoOf w2 w3 w4 m).bind fun q5 =>
            (oj_st 0 q5.2 55 ((v4 + (-1)) - 1) q5.1).bind fun m6 =>
            some (Sum.inl ((v4 + (-1)), (v5 + 1), m6))
set_option maxHeartbeats 4000000 in
set_option maxRecDepth 100000 in
theorem b_X11_worked_L12b (e : Nat) (hd : 0 ≤ e) (v1 : Int32) (v3 : Int32) (v4 : Int32) (v5 : Int32) (m : ej_M) {x : ((Int32 × Int32 × ej_M) ⊕ (Int32 × ej_M))} {res : Option Value × ej_H} {K : ((Int32 × Int32 × ej_M) ⊕ (Int32 × ej_M)) → Prop} (hf : f_X11_worked_L12b v1 v3 v4 v5 m = some x) (hK : K x) (h1 : ∀ q : (Int32 × Int32 × ej_M), K (Sum.inl q) → ej_Z cX11_worked 7 (some .int) RX11 "worked" (e + 1) 12 [(0, .ref 41), (1, .int v1), (3, .int v3), (4, .int q.1), (5, .int q.2.1)] [] (ej_sh, q.2.2) res) (h0 : ∀ q : (Int32 × ej_M), K (Sum.inr q) → res = (some (Value.int q.1), (ej_sh, q.2))) : ej_Z cX11_worked 7 (some .int) RX11 "worked" (e + 1) 12 [(0, .ref 41), (1, .int v1), (3, .int v3), (4, .int v4), (5, .int v5)] [] (ej_sh, m) res := by
  unfold f_X11_worked_L12b at hf
  refine z_iload (pc := 12) (i := 5) (j := 4) dX11_worked_12 rfl ?_
  refine z_sipush (pc := 14) dX11_worked_14 ks_130 ?_
  refine z_iload_n (pc := 17) (i := 1) (j := 1) dX11_worked_17 rfl rfl ?_
  refine z_imul (pc := 18) dX11_worked_18 ?_
  refine z_iload_n (pc := 19) (i := 3) (j := 2) dX11_worked_19 rfl rfl ?_
  refine z_iadd (pc := 20) dX11_worked_20 ?_
  refine z_icmp_ge (pc := 21) (tgt := 188) dX11_worked_21 (by decide) (fun hc => ?_) (fun hc => ?_)
  · rw [if_pos hc] at hf
    refine z_aload_n (pc := 188) (i := 0) (j := 0) dX11_worked_188 rfl rfl ?_
    refine z_ogetR (pc := 189) dX11_worked_189 lf_RX11_51 sh_41 rfl rfl rfl ?_
    refine z_iconst (pc := 192) dX11_worked_192 ki_0 ?_
    obtain ⟨w1, hw1, hf⟩ := Option.bind_eq_some_iff.mp hf
    refine z_oiald (pc := 193) dX11_worked_193 hw1 ?_
    obtain rfl := Option.some.inj hf
    rw [h0 _ hK]
    exact z_iret dX11_worked_194 rfl rfl
  · rw [if_neg hc] at hf
    refine z_aload_n (pc := 24) (i := 0) (j := 0) dX11_worked_24 rfl rfl ?_
    refine z_ogetR (pc := 25) dX11_worked_25 lf_RX11_32 sh_41 rfl rfl rfl ?_
    refine z_iload (pc := 28) (i := 5) (j := 4) dX11_worked_28 rfl ?_
    obtain ⟨w2, hw2, hf⟩ := Option.bind_eq_some_iff.mp hf
    refine z_obald (pc := 30) dX11_worked_30 hw2 ?_
    refine z_istore (pc := 31) (i := 6) (ls' := [(6, .int w2), (0, .ref 41), (1, .int v1), (3, .int v3), (4, .int v4), (5, .int v5)]) dX11_worked_31 (Nat.le_of_ble_eq_true rfl) rfl ?_
    refine z_iload (pc := 33) (i := 6) (j := 0) dX11_worked_33 rfl ?_
    refine z_iconst (pc := 35) dX11_worked_35 ki_1 ?_
    refine z_icmp_eq (pc := 36) (tgt := 45) dX11_worked_36 (by decide) (fun hc => ?_) (fun hc => ?_)
    · rw [if_pos hc] at hf
      exact z_pick [1, 2, 3, 4, 5, 0] rfl (b_X11_worked_B45 e hd v1 v3 v4 v5 w2 m (K := K) hf hK h1 h0)
    · rw [if_neg hc] at hf
      refine z_iload (pc := 39) (i := 6) (j := 0) dX11_worked_39 rfl ?_
      refine z_iconst (pc := 41) dX11_worked_41 ki_2 ?_
      refine z_icmp_ne (pc := 42) (tgt := 86) dX11_worked_42 (by decide) (fun hc => ?_) (fun hc => ?_)
      · rw [if_neg hc] at hf
        refine z_iload (pc := 86) (i := 6) (j := 0) dX11_worked_86 rfl ?_
        refine z_iconst (pc := 88) dX11_worked_88 ki_3 ?_
        refine z_icmp_ne (pc := 89) (tgt := 121) dX11_worked_89 (by decide) (fun hc => ?_) (fun hc => ?_)
        · rw [if_neg hc] at hf
          refine z_iload (pc := 121) (i := 6) (j := 0) dX11_worked_121 rfl ?_
          refine z_iconst (pc := 123) dX11_worked_123 ki_4 ?_
          refine z_icmp_ne (pc := 124) (tgt := 149) dX11_worked_124 (by decide) (fun hc => ?_) (fun hc => ?_)
          · rw [if_neg hc] at hf
            refine z_iinc (pc := 149) (j := 4) (ls' := [(4, .int (v4 + (-1))), (6, .int w2), (0, .ref 41), (1, .int v1), (3, .int v3), (5, .int v5)]) dX11_worked_149 rfl ki_n1 (Nat.le_of_ble_eq_true rfl) rfl ?_
            refine z_aload_n (pc := 152) (i := 0) (j := 2) dX11_worked_152 rfl rfl ?_
            refine z_ogetR (pc := 153) dX11_worked_153 lf_RX11_51 sh_41 rfl rfl rfl ?_
            refine z_iload (pc := 156) (i := 4) (j := 0) dX11_worked_156 rfl ?_
            refine z_iconst (pc := 158) dX11_worked_158 ki_1 ?_
            refine z_isub (pc := 159) dX11_worked_159 ?_
            refine z_iload (pc := 160) (i := 6) (j := 1) dX11_worked_160 rfl ?_
            refine z_aload_n (pc := 162) (i := 0) (j := 2) dX11_worked_162 rfl rfl ?_
            refine z_ogetR (pc := 163) dX11_worked_163 lf_RX11_51 sh_41 rfl rfl rfl ?_
            refine z_iload (pc := 166) (i := 4) (j := 0) dX11_worked_166 rfl ?_
            refine z_iconst (pc := 168) dX11_worked_168 ki_1 ?_
            refine z_isub (pc := 169) dX11_worked_169 ?_
            obtain ⟨w3, hw3, hf⟩ := Option.bind_eq_some_iff.mp hf
            refine z_oiald (pc := 170) dX11_worked_170 hw3 ?_
            refine z_aload_n (pc := 171) (i := 0) (j := 2) dX11_worked_171 rfl rfl ?_
            refine z_ogetR (pc := 172) dX11_worked_172 lf_RX11_51 sh_41 rfl rfl rfl ?_
            refine z_iload (pc := 175) (i := 4) (j := 0) dX11_worked_175 rfl ?_
            obtain ⟨w4, hw4, hf⟩ := Option.bind_eq_some_iff.mp hf
            refine z_oiald (pc := 177) dX11_worked_177 hw4 ?_
            obtain ⟨q5, hq5, hf⟩ := Option.bind_eq_some_iff.mp hf
            refine z_oSi (pc := 178) (as := [.int w2, .int w3, .int w4]) (rest := [.int ((v4 + (-1)) - 1), .ref 55]) dX11_worked_178 lm_RX11_199 mf_X11_twoOf ms_X11_twoOf rfl rfl (Nat.le_of_ble_eq_true rfl) (c_X11_twoOf e (by omega) w2 w3 w4 m hq5) ?_
            obtain ⟨m6, hm6, hf⟩ := Option.bind_eq_some_iff.mp hf
            refine z_oiast (pc := 181) dX11_worked_181 hm6 ?_
            refine z_iinc (pc := 182) (j := 5) (ls' := [(5, .int (v5 + 1)), (4, .int (v4 + (-1))), (6, .int w2), (0, .ref 41), (1, .int v1), (3, .int v3)]) dX11_worked_182 rfl ki_1 (Nat.le_of_ble_eq_true rfl) rfl ?_
            refine z_goto (pc := 185) (tgt := 12) dX11_worked_185 (by decide) ?_
            obtain rfl := Option.some.inj hf
            exact z_pick (ls' := [(0, .ref 41), (1, .int v1), (3, .int v3), (4, .int (v4 + (-1))), (5, .int (v5 + 1))]) [3, 4, 5, 1, 0] rfl (h1 ((v4 + (-1)), (v5 + 1), m6) hK)
          · rw [if_pos hc] at hf
            refine z_aload_n (pc := 127) (i := 0) (j := 1) dX11_worked_127 rfl rfl ?_
            refine z_ogetR (pc := 128) dX11_worked_128 lf_RX11_51 sh_41 rfl rfl rfl ?_
            refine z_iload (pc := 131) (i := 4) (j := 4) dX11_worked_131 rfl ?_
            refine z_iconst (pc := 133) dX11_worked_133 ki_1 ?_
            refine z_isub (pc := 134) dX11_worked_134 ?_
            refine z_aload_n (pc := 135) (i := 0) (j := 1) dX11_worked_135 rfl rfl ?_
            refine z_ogetR (pc := 136) dX11_worked_136 lf_RX11_51 sh_41 rfl rfl rfl ?_
            refine z_iload (pc := 139) (i := 4) (j := 4) dX11_worked_139 rfl ?_
            refine z_iconst (pc := 141) dX11_worked_141 ki_1 ?_
            refine z_isub (pc := 142) dX11_worked_142 ?_
            obtain ⟨w7, hw7, hf⟩ := Option.bind_eq_some_iff.mp hf
            refine z_oiald (pc := 143) dX11_worked_143 hw7 ?_
            refine z_ineg (pc := 144) dX11_worked_144 ?_
            obtain ⟨m8, hm8, hf⟩ := Option.bind_eq_some_iff.mp hf
            refine z_oiast (pc := 145) dX11_worked_145 hm8 ?_
            refine z_goto (pc := 146) (tgt := 182) dX11_worked_146 (by decide) ?_
            refine z_iinc (pc := 182) (j := 5) (ls' := [(5, .int (v5 + 1)), (6, .int w2), (0, .ref 41), (1, .int v1), (3, .int v3), (4, .int v4)]) dX11_worked_182 rfl ki_1 (Nat.le_of_ble_eq_true rfl) rfl ?_
            refine z_goto (pc := 185) (tgt := 12) dX11_worked_185 (by decide) ?_
            obtain rfl := Option.some.inj hf
            exact z_pick (ls' := [(0, .ref 41), (1, .int v1), (3, .int v3), (4, .int v4), (5, .int (v5 + 1))]) [2, 3, 4, 5, 0] rfl (h1 (v4, (v5 + 1), m8) hK)
        · rw [if_pos hc] at hf
          refine z_aload_n (pc := 92) (i := 0) (j := 1) dX11_worked_92 rfl rfl ?_
          refine z_ogetR (pc := 93) dX11_worked_93 lf_RX11_51 sh_41 rfl rfl rfl ?_
          refine z_iload (pc := 96) (i := 4) (j := 4) dX11_worked_96 rfl ?_
          refine z_iconst (pc := 98) dX11_worked_98 ki_1 ?_
          refine z_isub (pc := 99) dX11_worked_99 ?_
          refine z_aload_n (pc := 100) (i := 0) (j := 1) dX11_worked_100 rfl rfl ?_
          refine z_ogetR (pc := 101) dX11_worked_101 lf_RX11_51 sh_41 rfl rfl rfl ?_
          refine z_iload (pc := 104) (i := 4) (j := 4) dX11_worked_104 rfl ?_
          refine z_iconst (pc := 106) dX11_worked_106 ki_1 ?_
          refine z_isub (pc := 107) dX11_worked_107 ?_
          obtain ⟨w9, hw9, hf⟩ := Option.bind_eq_some_iff.mp hf
          refine z_oiald (pc := 108) dX11_worked_108 hw9 ?_
          refine z_if_ne (pc := 109) (tgt := 116) dX11_worked_109 (by decide) (fun hc => ?_) (fun hc => ?_)
          · rw [if_neg hc] at hf
            refine z_iconst (pc := 116) dX11_worked_116 ki_0 ?_
            exact z_pick [1, 2, 3, 4, 5] rfl (b_X11_worked_B117 e hd v1 v3 v4 v5 0 (v4 - 1) m (K := K) hf hK h1 h0)
          · rw [if_pos hc] at hf
            refine z_iconst (pc := 112) dX11_worked_112 ki_1 ?_
            refine z_goto (pc := 113) (tgt := 117) dX11_worked_113 (by decide) ?_
            exact z_pick [1, 2, 3, 4, 5] rfl (b_X11_worked_B117 e hd v1 v3 v4 v5 1 (v4 - 1) m (K := K) hf hK h1 h0)
      · rw [if_pos hc] at hf
        exact z_pick [1, 2, 3, 4, 5, 0] rfl (b_X11_worked_B45 e hd v1 v3 v4 v5 w2 m (K := K) hf hK h1 h0)
def f_X11_worked_L12 (v1 : Int32) (v3 : Int32) (v4 : Int32) (v5 : Int32) (m : ej_M) : Option (Int32 × ej_M) := oj_loop (fun q : (Int32 × Int32 × ej_M) => f_X11_worked_L12b v1 v3 q.1 q.2.1 q.2.2) oj_FU (v4, v5, m)
set_option maxHeartbeats 4000000 in
set_option maxRecDepth 100000 in
theorem b_X11_worked_L12 (e : Nat) (hd : 0 ≤ e) (v1 : Int32) (v3 : Int32) (v4 : Int32) (v5 : Int32) (m : ej_M) {x : (Int32 × ej_M)} {res : Option Value × ej_H} {K : (Int32 × ej_M) → Prop} (hf : f_X11_worked_L12 v1 v3 v4 v5 m = some x) (hK : K x) (h0 : ∀ q : (Int32 × ej_M), K q → res = (some (Value.int q.1), (ej_sh, q.2))) : ej_Z cX11_worked 7 (some .int) RX11 "worked" (e + 1) 12 [(0, .ref 41), (1, .int v1), (3, .int v3), (4, .int v4), (5, .int v5)] [] (ej_sh, m) res :=
  oj_loop_Z (body := fun q : (Int32 × Int32 × ej_M) => f_X11_worked_L12b v1 v3 q.1 q.2.1 q.2.2) (P := fun q : (Int32 × Int32 × ej_M) => ej_Z cX11_worked 7 (some .int) RX11 "worked" (e + 1) 12 [(0, .ref 41), (1, .int v1), (3, .int v3), (4, .int q.1), (5, .int q.2.1)] [] (ej_sh, q.2.2) res) (K := K) (fun s x hb hl hr => b_X11_worked_L12b e hd v1 v3  s.1 s.2.1 s.2.2 (K := fun x => (∀ s' : (Int32 × Int32 × ej_M), x = Sum.inl s' → ej_Z cX11_worked 7 (some .int) RX11 "worked" (e + 1) 12 [(0, .ref 41), (1, .int v1), (3, .int v3), (4, .int s'.1), (5, .int s'.2.1)] [] (ej_sh, s'.2.2) res) ∧ ∀ e, x = Sum.inr e → K e) hb ⟨hl, hr⟩ (fun q hq => hq.1 q rfl) (fun q hq => h0 q (hq.2 _ rfl))) oj_FU (v4, v5, m) x hf hK
def f_X11_worked (v1 : Int32) (v2 : Int32) (v3 : Int32) (m : ej_M) : Option (Int32 × ej_M) :=
  f_X11_worked_L12 v1 v3 0 ((130 * v1) + v2) m
set_option maxHeartbeats 4000000 in
set_option maxRecDepth 100000 in
theorem b_X11_worked (e : Nat) (hd : 0 ≤ e) (v1 : Int32) (v2 : Int32) (v3 : Int32) (m : ej_M) {x : (Int32 × ej_M)} {res : Option Value × ej_H} {K : (Int32 × ej_M) → Prop} (hf : f_X11_worked v1 v2 v3 m = some x) (hK : K x) (h0 : ∀ q : (Int32 × ej_M), K q → res = (some (Value.int q.1), (ej_sh, q.2))) : ej_Z cX11_worked 7 (some .int) RX11 "worked" (e + 1) 0 [(0, .ref 41), (1, .int v1), (2, .int v2), (3, .int v3)] [] (ej_sh, m) res := by
  unfold f_X11_worked at hf
  refine z_iconst (pc := 0) dX11_worked_0 ki_0 ?_
  refine z_istore (pc := 1) (i := 4) (ls' := [(4, .int 0), (0, .ref 41), (1, .int v1), (2, .int v2), (3, .int v3)]) dX11_worked_1 (Nat.le_of_ble_eq_true rfl) rfl ?_
  refine z_sipush (pc := 3) dX11_worked_3 ks_130 ?_
  refine z_iload_n (pc := 6) (i := 1) (j := 2) dX11_worked_6 rfl rfl ?_
  refine z_imul (pc := 7) dX11_worked_7 ?_
  refine z_iload_n (pc := 8) (i := 2) (j := 3) dX11_worked_8 rfl rfl ?_
  refine z_iadd (pc := 9) dX11_worked_9 ?_
  refine z_istore (pc := 10) (i := 5) (ls' := [(5, .int ((130 * v1) + v2)), (4, .int 0), (0, .ref 41), (1, .int v1), (2, .int v2), (3, .int v3)]) dX11_worked_10 (Nat.le_of_ble_eq_true rfl) rfl ?_
  exact z_pick [2, 3, 5, 1, 0] rfl (b_X11_worked_L12 e hd v1 v3 0 ((130 * v1) + v2) m (K := K) hf hK  h0)
set_option maxHeartbeats 4000000 in
set_option maxRecDepth 100000 in
theorem c_X11_worked (d : Nat) (hd : 1 ≤ d) (v1 : Int32) (v2 : Int32) (v3 : Int32) (m : ej_M) {q : (Int32 × ej_M)} (hf : f_X11_worked v1 v2 v3 m = some q) : ej_Ct yX11_worked cX11_worked 7 (some .int) d [.ref 41, .int v1, .int v2, .int v3] (ej_sh, m) ((some (Value.int q.1), (ej_sh, q.2)) : Option Value × ej_H) := by
  obtain ⟨e, rfl⟩ : ∃ e, d = e + 1 := ⟨d - 1, by omega⟩
  exact z_met (by decide +kernel) (Nat.le_of_ble_eq_true rfl) (b_X11_worked e (by omega) v1 v2 v3 m (K := fun z => ((some (Value.int q.1), (ej_sh, q.2)) : Option Value × ej_H) = (some (Value.int z.1), (ej_sh, z.2))) hf rfl (fun _ h => h))
def f_X11_gives_B47 (v1 : Int32) (v3 : Int32) (m : ej_M) : Option (Int32 × ej_M) :=
  (oj_ld 2 m 52 v3).bind fun w1 =>
  (oj_ld 2 m 53 v3).bind fun w2 =>
  (f_X11_worked v1 w1 w2 m).bind fun q3 =>
  some (q3.1, q3.2)
set_option maxHeartbeats 4000000 in
set_option maxRecDepth 100000 in
theorem b_X11_gives_B47 (e : Nat) (hd : 1 ≤ e) (v1 : Int32) (v3 : Int32) (m : ej_M) {x : (Int32 × ej_M)} {res : Option Value × ej_H} {K : (Int32 × ej_M) → Prop} (hf : f_X11_gives_B47 v1 v3 m = some x) (hK : K x) (h0 : ∀ q : (Int32 × ej_M), K q → res = (some (Value.int q.1), (ej_sh, q.2))) : ej_Z cX11_gives 4 (some .int) RX11 "gives" (e + 1) 47 [(0, .ref 41), (1, .int v1), (3, .int v3)] [] (ej_sh, m) res := by
  unfold f_X11_gives_B47 at hf
  refine z_aload_n (pc := 47) (i := 0) (j := 0) dX11_gives_47 rfl rfl ?_
  refine z_iload_n (pc := 48) (i := 1) (j := 1) dX11_gives_48 rfl rfl ?_
  refine z_aload_n (pc := 49) (i := 0) (j := 0) dX11_gives_49 rfl rfl ?_
  refine z_ogetR (pc := 50) dX11_gives_50 lf_RX11_41 sh_41 rfl rfl rfl ?_
  refine z_iload_n (pc := 53) (i := 3) (j := 2) dX11_gives_53 rfl rfl ?_
  obtain ⟨w1, hw1, hf⟩ := Option.bind_eq_some_iff.mp hf
  refine z_osald (pc := 54) dX11_gives_54 hw1 ?_
  refine z_aload_n (pc := 55) (i := 0) (j := 0) dX11_gives_55 rfl rfl ?_
  refine z_ogetR (pc := 56) dX11_gives_56 lf_RX11_45 sh_41 rfl rfl rfl ?_
  refine z_iload_n (pc := 59) (i := 3) (j := 2) dX11_gives_59 rfl rfl ?_
  obtain ⟨w2, hw2, hf⟩ := Option.bind_eq_some_iff.mp hf
  refine z_osald (pc := 60) dX11_gives_60 hw2 ?_
  obtain ⟨q3, hq3, hf⟩ := Option.bind_eq_some_iff.mp hf
  refine z_oVi (pc := 61) (as := [.int v1, .int w1, .int w2]) (rest := []) dX11_gives_61 lm_RX11_202 mf_X11_worked mi_X11_worked mv_X11_worked rc_41 rfl rfl (Nat.le_of_ble_eq_true rfl) (c_X11_worked e (by omega) v1 w1 w2 m hq3) ?_
  obtain rfl := Option.some.inj hf
  rw [h0 _ hK]
  exact z_iret dX11_gives_64 rfl rfl
def f_X11_gives_L7b (v1 : Int32) (v2 : Int32) (v3 : Int32) (m : ej_M) : Option ((Int32 × Int32 × ej_M) ⊕ (Int32 × ej_M)) :=
  (oj_ld 0 m 51 v1).bind fun w1 =>
  if ((61 * v1) + w1) ≤ v3 then
    some (Sum.inr (0, m))
  else
    (oj_ld 2 m 52 v3).bind fun w2 =>
    if w2 = v2 then
      (f_X11_gives_B47 v1 v3 m).map fun y => (Sum.inr y)
    else
      (oj_ld 2 m 52 v3).bind fun w3 =>
      (f_X11_worked v1 v2 w3 m).bind fun q4 =>
      if q4.1 = 0 then
        (oj_ld 2 q4.2 53 v3).bind fun w5 =>
        some (Sum.inl (w5, (v3 + 1), q4.2))
      else
        (f_X11_gives_B47 v1 v3 q4.2).map fun y => (Sum.inr y)
set_option maxHeartbeats 4000000 in
set_option maxRecDepth 100000 in
theorem b_X11_gives_L7b (e : Nat) (hd : 1 ≤ e) (v1 : Int32) (v2 : Int32) (v3 : Int32) (m : ej_M) {x : ((Int32 × Int32 × ej_M) ⊕ (Int32 × ej_M))} {res : Option Value × ej_H} {K : ((Int32 × Int32 × ej_M) ⊕ (Int32 × ej_M)) → Prop} (hf : f_X11_gives_L7b v1 v2 v3 m = some x) (hK : K x) (h1 : ∀ q : (Int32 × Int32 × ej_M), K (Sum.inl q) → ej_Z cX11_gives 4 (some .int) RX11 "gives" (e + 1) 7 [(0, .ref 41), (1, .int v1), (2, .int q.1), (3, .int q.2.1)] [] (ej_sh, q.2.2) res) (h0 : ∀ q : (Int32 × ej_M), K (Sum.inr q) → res = (some (Value.int q.1), (ej_sh, q.2))) : ej_Z cX11_gives 4 (some .int) RX11 "gives" (e + 1) 7 [(0, .ref 41), (1, .int v1), (2, .int v2), (3, .int v3)] [] (ej_sh, m) res := by
  unfold f_X11_gives_L7b at hf
  refine z_iload_n (pc := 7) (i := 3) (j := 3) dX11_gives_7 rfl rfl ?_
  refine z_bipush (pc := 8) dX11_gives_8 kb_61 ?_
  refine z_iload_n (pc := 10) (i := 1) (j := 1) dX11_gives_10 rfl rfl ?_
  refine z_imul (pc := 11) dX11_gives_11 ?_
  refine z_aload_n (pc := 12) (i := 0) (j := 0) dX11_gives_12 rfl rfl ?_
  refine z_ogetR (pc := 13) dX11_gives_13 lf_RX11_38 sh_41 rfl rfl rfl ?_
  refine z_iload_n (pc := 16) (i := 1) (j := 1) dX11_gives_16 rfl rfl ?_
  obtain ⟨w1, hw1, hf⟩ := Option.bind_eq_some_iff.mp hf
  refine z_oiald (pc := 17) dX11_gives_17 hw1 ?_
  refine z_iadd (pc := 18) dX11_gives_18 ?_
  refine z_icmp_ge (pc := 19) (tgt := 78) dX11_gives_19 (by decide) (fun hc => ?_) (fun hc => ?_)
  · rw [if_pos hc] at hf
    refine z_iconst (pc := 78) dX11_gives_78 ki_0 ?_
    obtain rfl := Option.some.inj hf
    rw [h0 _ hK]
    exact z_iret dX11_gives_79 rfl rfl
  · rw [if_neg hc] at hf
    refine z_aload_n (pc := 22) (i := 0) (j := 0) dX11_gives_22 rfl rfl ?_
    refine z_ogetR (pc := 23) dX11_gives_23 lf_RX11_41 sh_41 rfl rfl rfl ?_
    refine z_iload_n (pc := 26) (i := 3) (j := 3) dX11_gives_26 rfl rfl ?_
    obtain ⟨w2, hw2, hf⟩ := Option.bind_eq_some_iff.mp hf
    refine z_osald (pc := 27) dX11_gives_27 hw2 ?_
    refine z_iload_n (pc := 28) (i := 2) (j := 2) dX11_gives_28 rfl rfl ?_
    refine z_icmp_eq (pc := 29) (tgt := 47) dX11_gives_29 (by decide) (fun hc => ?_) (fun hc => ?_)
    · rw [if_pos hc] at hf
      obtain ⟨y, hy, hxy⟩ := Option.map_eq_some_iff.mp hf
      subst hxy
      exact z_pick [0, 1, 3] rfl (b_X11_gives_B47 e hd v1 v3 m (K := fun y => K (Sum.inr y)) hy hK  h0)
    · rw [if_neg hc] at hf
      refine z_aload_n (pc := 32) (i := 0) (j := 0) dX11_gives_32 rfl rfl ?_
      refine z_iload_n (pc := 33) (i := 1) (j := 1) dX11_gives_33 rfl rfl ?_
      refine z_iload_n (pc := 34) (i := 2) (j := 2) dX11_gives_34 rfl rfl ?_
      refine z_aload_n (pc := 35) (i := 0) (j := 0) dX11_gives_35 rfl rfl ?_
      refine z_ogetR (pc := 36) dX11_gives_36 lf_RX11_41 sh_41 rfl rfl rfl ?_
      refine z_iload_n (pc := 39) (i := 3) (j := 3) dX11_gives_39 rfl rfl ?_
      obtain ⟨w3, hw3, hf⟩ := Option.bind_eq_some_iff.mp hf
      refine z_osald (pc := 40) dX11_gives_40 hw3 ?_
      obtain ⟨q4, hq4, hf⟩ := Option.bind_eq_some_iff.mp hf
      refine z_oVi (pc := 41) (as := [.int v1, .int v2, .int w3]) (rest := []) dX11_gives_41 lm_RX11_202 mf_X11_worked mi_X11_worked mv_X11_worked rc_41 rfl rfl (Nat.le_of_ble_eq_true rfl) (c_X11_worked e (by omega) v1 v2 w3 m hq4) ?_
      refine z_if_eq (pc := 44) (tgt := 65) dX11_gives_44 (by decide) (fun hc => ?_) (fun hc => ?_)
      · rw [if_pos hc] at hf
        refine z_aload_n (pc := 65) (i := 0) (j := 0) dX11_gives_65 rfl rfl ?_
        refine z_ogetR (pc := 66) dX11_gives_66 lf_RX11_45 sh_41 rfl rfl rfl ?_
        refine z_iload_n (pc := 69) (i := 3) (j := 3) dX11_gives_69 rfl rfl ?_
        obtain ⟨w5, hw5, hf⟩ := Option.bind_eq_some_iff.mp hf
        refine z_osald (pc := 70) dX11_gives_70 hw5 ?_
        refine z_istore_n (pc := 71) (i := 2) (ls' := [(2, .int w5), (0, .ref 41), (1, .int v1), (3, .int v3)]) dX11_gives_71 rfl (Nat.le_of_ble_eq_true rfl) rfl ?_
        refine z_iinc (pc := 72) (j := 3) (ls' := [(3, .int (v3 + 1)), (2, .int w5), (0, .ref 41), (1, .int v1)]) dX11_gives_72 rfl ki_1 (Nat.le_of_ble_eq_true rfl) rfl ?_
        refine z_goto (pc := 75) (tgt := 7) dX11_gives_75 (by decide) ?_
        obtain rfl := Option.some.inj hf
        exact z_pick (ls' := [(0, .ref 41), (1, .int v1), (2, .int w5), (3, .int (v3 + 1))]) [2, 3, 1, 0] rfl (h1 (w5, (v3 + 1), q4.2) hK)
      · rw [if_neg hc] at hf
        obtain ⟨y, hy, hxy⟩ := Option.map_eq_some_iff.mp hf
        subst hxy
        exact z_pick [0, 1, 3] rfl (b_X11_gives_B47 e hd v1 v3 q4.2 (K := fun y => K (Sum.inr y)) hy hK  h0)
def f_X11_gives_L7 (v1 : Int32) (v2 : Int32) (v3 : Int32) (m : ej_M) : Option (Int32 × ej_M) := oj_loop (fun q : (Int32 × Int32 × ej_M) => f_X11_gives_L7b v1 q.1 q.2.1 q.2.2) oj_FU (v2, v3, m)
set_option maxHeartbeats 4000000 in
set_option maxRecDepth 100000 in
theorem b_X11_gives_L7 (e : Nat) (hd : 1 ≤ e) (v1 : Int32) (v2 : Int32) (v3 : Int32) (m : ej_M) {x : (Int32 × ej_M)} {res : Option Value × ej_H} {K : (Int32 × ej_M) → Prop} (hf : f_X11_gives_L7 v1 v2 v3 m = some x) (hK : K x) (h0 : ∀ q : (Int32 × ej_M), K q → res = (some (Value.int q.1), (ej_sh, q.2))) : ej_Z cX11_gives 4 (some .int) RX11 "gives" (e + 1) 7 [(0, .ref 41), (1, .int v1), (2, .int v2), (3, .int v3)] [] (ej_sh, m) res :=
  oj_loop_Z (body := fun q : (Int32 × Int32 × ej_M) => f_X11_gives_L7b v1 q.1 q.2.1 q.2.2) (P := fun q : (Int32 × Int32 × ej_M) => ej_Z cX11_gives 4 (some .int) RX11 "gives" (e + 1) 7 [(0, .ref 41), (1, .int v1), (2, .int q.1), (3, .int q.2.1)] [] (ej_sh, q.2.2) res) (K := K) (fun s x hb hl hr => b_X11_gives_L7b e hd v1  s.1 s.2.1 s.2.2 (K := fun x => (∀ s' : (Int32 × Int32 × ej_M), x = Sum.inl s' → ej_Z cX11_gives 4 (some .int) RX11 "gives" (e + 1) 7 [(0, .ref 41), (1, .int v1), (2, .int s'.1), (3, .int s'.2.1)] [] (ej_sh, s'.2.2) res) ∧ ∀ e, x = Sum.inr e → K e) hb ⟨hl, hr⟩ (fun q hq => hq.1 q rfl) (fun q hq => h0 q (hq.2 _ rfl))) oj_FU (v2, v3, m) x hf hK
def f_X11_gives (v1 : Int32) (m : ej_M) : Option (Int32 × ej_M) :=
  f_X11_gives_L7 v1 0 (61 * v1) m
set_option maxHeartbeats 4000000 in
set_option maxRecDepth 100000 in
theorem b_X11_gives (e : Nat) (hd : 1 ≤ e) (v1 : Int32) (m : ej_M) {x : (Int32 × ej_M)} {res : Option Value × ej_H} {K : (Int32 × ej_M) → Prop} (hf : f_X11_gives v1 m = some x) (hK : K x) (h0 : ∀ q : (Int32 × ej_M), K q → res = (some (Value.int q.1), (ej_sh, q.2))) : ej_Z cX11_gives 4 (some .int) RX11 "gives" (e + 1) 0 [(0, .ref 41), (1, .int v1)] [] (ej_sh, m) res := by
  unfold f_X11_gives at hf
  refine z_iconst (pc := 0) dX11_gives_0 ki_0 ?_
  refine z_istore_n (pc := 1) (i := 2) (ls' := [(2, .int 0), (0, .ref 41), (1, .int v1)]) dX11_gives_1 rfl (Nat.le_of_ble_eq_true rfl) rfl ?_
  refine z_bipush (pc := 2) dX11_gives_2 kb_61 ?_
  refine z_iload_n (pc := 4) (i := 1) (j := 2) dX11_gives_4 rfl rfl ?_
  refine z_imul (pc := 5) dX11_gives_5 ?_
  refine z_istore_n (pc := 6) (i := 3) (ls' := [(3, .int (61 * v1)), (2, .int 0), (0, .ref 41), (1, .int v1)]) dX11_gives_6 rfl (Nat.le_of_ble_eq_true rfl) rfl ?_
  exact z_pick [2, 3, 1, 0] rfl (b_X11_gives_L7 e hd v1 0 (61 * v1) m (K := K) hf hK  h0)
set_option maxHeartbeats 4000000 in
set_option maxRecDepth 100000 in
theorem c_X11_gives (d : Nat) (hd : 2 ≤ d) (v1 : Int32) (m : ej_M) {q : (Int32 × ej_M)} (hf : f_X11_gives v1 m = some q) : ej_Ct yX11_gives cX11_gives 4 (some .int) d [.ref 41, .int v1] (ej_sh, m) ((some (Value.int q.1), (ej_sh, q.2)) : Option Value × ej_H) := by
  obtain ⟨e, rfl⟩ : ∃ e, d = e + 1 := ⟨d - 1, by omega⟩
  exact z_met (by decide +kernel) (Nat.le_of_ble_eq_true rfl) (b_X11_gives e (by omega) v1 m (K := fun z => ((some (Value.int q.1), (ej_sh, q.2)) : Option Value × ej_H) = (some (Value.int z.1), (ej_sh, z.2))) hf rfl (fun _ h => h))
def f_X11_weightAt (v1 : Int32) (m : ej_M) : Option (Int32 × ej_M) :=
  (f_X11_in v1 0 ((m.1 41 29) - 1) m).bind fun q1 =>
  if q1.1 = 0 then
    if (q1.2.1 41 5) = 0 then
      some (0, q1.2)
    else
      if 0 ≤ v1 then
        (oj_ld 0 q1.2 56 0).bind fun w2 =>
        (oj_ld 0 q1.2 42 w2).bind fun w3 =>
        some (w3, q1.2)
      else
        (oj_ld 0 q1.2 56 ((q1.2.1 41 29) - 1)).bind fun w4 =>
        (oj_ld 0 q1.2 42 w4).bind fun w5 =>
        some (w5, q1.2)
  else
    (oj_ld 0 q1.2 56 v1).bind fun w6 =>
    (oj_ld 0 q1.2 42 w6).bind fun w7 =>
    some (w7, q1.2)
set_option maxHeartbeats 4000000 in
set_option maxRecDepth 100000 in
theorem b_X11_weightAt (e : Nat) (hd : 0 ≤ e) (v1 : Int32) (m : ej_M) {x : (Int32 × ej_M)} {res : Option Value × ej_H} {K : (Int32 × ej_M) → Prop} (hf : f_X11_weightAt v1 m = some x) (hK : K x) (h0 : ∀ q : (Int32 × ej_M), K q → res = (some (Value.int q.1), (ej_sh, q.2))) : ej_Z cX11_weightAt 2 (some .int) RX11 "weightAt" (e + 1) 0 [(0, .ref 41), (1, .int v1)] [] (ej_sh, m) res := by
  unfold f_X11_weightAt at hf
  refine z_iload_n (pc := 0) (i := 1) (j := 1) dX11_weightAt_0 rfl rfl ?_
  refine z_iconst (pc := 1) dX11_weightAt_1 ki_0 ?_
  refine z_aload_n (pc := 2) (i := 0) (j := 0) dX11_weightAt_2 rfl rfl ?_
  refine z_ogetI (pc := 3) dX11_weightAt_3 lf_RX11_212 sh_41 rfl rfl ?_
  refine z_iconst (pc := 6) dX11_weightAt_6 ki_1 ?_
  refine z_isub (pc := 7) dX11_weightAt_7 ?_
  obtain ⟨q1, hq1, hf⟩ := Option.bind_eq_some_iff.mp hf
  refine z_oSi (pc := 8) (as := [.int v1, .int 0, .int ((m.1 41 29) - 1)]) (rest := []) dX11_weightAt_8 lm_RX11_104 mf_X11_in ms_X11_in rfl rfl (Nat.le_of_ble_eq_true rfl) (c_X11_in e (by omega) v1 0 ((m.1 41 29) - 1) m hq1) ?_
  refine z_if_eq (pc := 11) (tgt := 26) dX11_weightAt_11 (by decide) (fun hc => ?_) (fun hc => ?_)
  · rw [if_pos hc] at hf
    refine z_aload_n (pc := 26) (i := 0) (j := 0) dX11_weightAt_26 rfl rfl ?_
    refine z_ogetI (pc := 27) dX11_weightAt_27 lf_RX11_119 sh_41 rfl rfl ?_
    refine z_if_ne (pc := 30) (tgt := 35) dX11_weightAt_30 (by decide) (fun hc => ?_) (fun hc => ?_)
    · rw [if_neg hc] at hf
      refine z_aload_n (pc := 35) (i := 0) (j := 0) dX11_weightAt_35 rfl rfl ?_
      refine z_ogetR (pc := 36) dX11_weightAt_36 lf_RX11_7 sh_41 rfl rfl rfl ?_
      refine z_aload_n (pc := 39) (i := 0) (j := 0) dX11_weightAt_39 rfl rfl ?_
      refine z_ogetR (pc := 40) dX11_weightAt_40 lf_RX11_54 sh_41 rfl rfl rfl ?_
      refine z_iload_n (pc := 43) (i := 1) (j := 1) dX11_weightAt_43 rfl rfl ?_
      refine z_if_ge (pc := 44) (tgt := 56) dX11_weightAt_44 (by decide) (fun hc => ?_) (fun hc => ?_)
      · rw [if_pos hc] at hf
        refine z_iconst (pc := 56) dX11_weightAt_56 ki_0 ?_
        obtain ⟨w2, hw2, hf⟩ := Option.bind_eq_some_iff.mp hf
        refine z_oiald (pc := 57) dX11_weightAt_57 hw2 ?_
        obtain ⟨w3, hw3, hf⟩ := Option.bind_eq_some_iff.mp hf
        refine z_oiald (pc := 58) dX11_weightAt_58 hw3 ?_
        obtain rfl := Option.some.inj hf
        rw [h0 _ hK]
        exact z_iret dX11_weightAt_59 rfl rfl
      · rw [if_neg hc] at hf
        refine z_aload_n (pc := 47) (i := 0) (j := 0) dX11_weightAt_47 rfl rfl ?_
        refine z_ogetI (pc := 48) dX11_weightAt_48 lf_RX11_212 sh_41 rfl rfl ?_
        refine z_iconst (pc := 51) dX11_weightAt_51 ki_1 ?_
        refine z_isub (pc := 52) dX11_weightAt_52 ?_
        refine z_goto (pc := 53) (tgt := 57) dX11_weightAt_53 (by decide) ?_
        obtain ⟨w4, hw4, hf⟩ := Option.bind_eq_some_iff.mp hf
        refine z_oiald (pc := 57) dX11_weightAt_57 hw4 ?_
        obtain ⟨w5, hw5, hf⟩ := Option.bind_eq_some_iff.mp hf
        refine z_oiald (pc := 58) dX11_weightAt_58 hw5 ?_
        obtain rfl := Option.some.inj hf
        rw [h0 _ hK]
        exact z_iret dX11_weightAt_59 rfl rfl
    · rw [if_pos hc] at hf
      refine z_iconst (pc := 33) dX11_weightAt_33 ki_0 ?_
      obtain rfl := Option.some.inj hf
      rw [h0 _ hK]
      exact z_iret dX11_weightAt_34 rfl rfl
  · rw [if_neg hc] at hf
    refine z_aload_n (pc := 14) (i := 0) (j := 0) dX11_weightAt_14 rfl rfl ?_
    refine z_ogetR (pc := 15) dX11_weightAt_15 lf_RX11_7 sh_41 rfl rfl rfl ?_
    refine z_aload_n (pc := 18) (i := 0) (j := 0) dX11_weightAt_18 rfl rfl ?_
    refine z_ogetR (pc := 19) dX11_weightAt_19 lf_RX11_54 sh_41 rfl rfl rfl ?_
    refine z_iload_n (pc := 22) (i := 1) (j := 1) dX11_weightAt_22 rfl rfl ?_
    obtain ⟨w6, hw6, hf⟩ := Option.bind_eq_some_iff.mp hf
    refine z_oiald (pc := 23) dX11_weightAt_23 hw6 ?_
    obtain ⟨w7, hw7, hf⟩ := Option.bind_eq_some_iff.mp hf
    refine z_oiald (pc := 24) dX11_weightAt_24 hw7 ?_
    obtain rfl := Option.some.inj hf
    rw [h0 _ hK]
    exact z_iret dX11_weightAt_25 rfl rfl
set_option maxHeartbeats 4000000 in
set_option maxRecDepth 100000 in
theorem c_X11_weightAt (d : Nat) (hd : 1 ≤ d) (v1 : Int32) (m : ej_M) {q : (Int32 × ej_M)} (hf : f_X11_weightAt v1 m = some q) : ej_Ct yX11_weightAt cX11_weightAt 2 (some .int) d [.ref 41, .int v1] (ej_sh, m) ((some (Value.int q.1), (ej_sh, q.2)) : Option Value × ej_H) := by
  obtain ⟨e, rfl⟩ : ∃ e, d = e + 1 := ⟨d - 1, by omega⟩
  exact z_met (by decide +kernel) (Nat.le_of_ble_eq_true rfl) (b_X11_weightAt e (by omega) v1 m (K := fun z => ((some (Value.int q.1), (ej_sh, q.2)) : Option Value × ej_H) = (some (Value.int z.1), (ej_sh, z.2))) hf rfl (fun _ h => h))
def f_X11_isLawfulAt (v1 : Int32) (m : ej_M) : Option (Int32 × ej_M) :=
  (f_X11_weightAt v1 m).bind fun q1 =>
  (f_X11_weightAt (v1 - 1) q1.2).bind fun q2 =>
  (f_X11_weightAt (v1 + 1) q2.2).bind fun q3 =>
  if (q3.2.1 41 27) = 0 then
    if (q2.1 + q3.1) < q1.1 then
      some (0, q3.2)
    else
      some (1, q3.2)
  else
    (oj_st 0 q3.2 54 0 q1.1).bind fun m4 =>
    (oj_st 0 m4 54 1 q2.1).bind fun m5 =>
    (oj_st 0 m5 54 2 q3.1).bind fun m6 =>
    (oj_st 0 m6 54 3 v1).bind fun m7 =>
    (oj_st 0 m7 54 4 (m7.1 41 29)).bind fun m8 =>
    (oj_ld 0 m8 56 v1).bind fun w9 =>
    (oj_st 0 m8 54 5 w9).bind fun m10 =>
    (f_X11_gives 0 m10).bind fun q11 =>
    if q11.1 = 0 then
      some (0, q11.2)
    else
      some (1, q11.2)
set_option maxHeartbeats 4000000 in
set_option maxRecDepth 100000 in
theorem b_X11_isLawfulAt (e : Nat) (hd : 2 ≤ e) (v1 : Int32) (m : ej_M) {x : (Int32 × ej_M)} {res : Option Value × ej_H} {K : (Int32 × ej_M) → Prop} (hf : f_X11_isLawfulAt v1 m = some x) (hK : K x) (h0 : ∀ q : (Int32 × ej_M), K q → res = (some (Value.int q.1), (ej_sh, q.2))) : ej_Z cX11_isLawfulAt 5 (some .boolean) RX11 "isLawfulAt" (e + 1) 0 [(0, .ref 41), (1, .int v1)] [] (ej_sh, m) res := by
  unfold f_X11_isLawfulAt at hf
  refine z_aload_n (pc := 0) (i := 0) (j := 0) dX11_isLawfulAt_0 rfl rfl ?_
  refine z_iload_n (pc := 1) (i := 1) (j := 1) dX11_isLawfulAt_1 rfl rfl ?_
  obtain ⟨q1, hq1, hf⟩ := Option.bind_eq_some_iff.mp hf
  refine z_oVi (pc := 2) (as := [.int v1]) (rest := []) dX11_isLawfulAt_2 lm_RX11_215 mf_X11_weightAt mi_X11_weightAt mv_X11_weightAt rc_41 rfl rfl (Nat.le_of_ble_eq_true rfl) (c_X11_weightAt e (by omega) v1 m hq1) ?_
  refine z_istore_n (pc := 5) (i := 2) (ls' := [(2, .int q1.1), (0, .ref 41), (1, .int v1)]) dX11_isLawfulAt_5 rfl (Nat.le_of_ble_eq_true rfl) rfl ?_
  refine z_aload_n (pc := 6) (i := 0) (j := 1) dX11_isLawfulAt_6 rfl rfl ?_
  refine z_iload_n (pc := 7) (i := 1) (j := 2) dX11_isLawfulAt_7 rfl rfl ?_
  refine z_iconst (pc := 8) dX11_isLawfulAt_8 ki_1 ?_
  refine z_isub (pc := 9) dX11_isLawfulAt_9 ?_
  obtain ⟨q2, hq2, hf⟩ := Option.bind_eq_some_iff.mp hf
  refine z_oVi (pc := 10) (as := [.int (v1 - 1)]) (rest := []) dX11_isLawfulAt_10 lm_RX11_215 mf_X11_weightAt mi_X11_weightAt mv_X11_weightAt rc_41 rfl rfl (Nat.le_of_ble_eq_true rfl) (c_X11_weightAt e (by omega) (v1 - 1) q1.2 hq2) ?_
  refine z_istore_n (pc := 13) (i := 3) (ls' := [(3, .int q2.1), (2, .int q1.1), (0, .ref 41), (1, .int v1)]) dX11_isLawfulAt_13 rfl (Nat.le_of_ble_eq_true rfl) rfl ?_
  refine z_aload_n (pc := 14) (i := 0) (j := 2) dX11_isLawfulAt_14 rfl rfl ?_
  refine z_iload_n (pc := 15) (i := 1) (j := 3) dX11_isLawfulAt_15 rfl rfl ?_
  refine z_iconst (pc := 16) dX11_isLawfulAt_16 ki_1 ?_
  refine z_iadd (pc := 17) dX11_isLawfulAt_17 ?_
  obtain ⟨q3, hq3, hf⟩ := Option.bind_eq_some_iff.mp hf
  refine z_oVi (pc := 18) (as := [.int (v1 + 1)]) (rest := []) dX11_isLawfulAt_18 lm_RX11_215 mf_X11_weightAt mi_X11_weightAt mv_X11_weightAt rc_41 rfl rfl (Nat.le_of_ble_eq_true rfl) (c_X11_weightAt e (by omega) (v1 + 1) q2.2 hq3) ?_
  refine z_istore (pc := 21) (i := 4) (ls' := [(4, .int q3.1), (3, .int q2.1), (2, .int q1.1), (0, .ref 41), (1, .int v1)]) dX11_isLawfulAt_21 (Nat.le_of_ble_eq_true rfl) rfl ?_
  refine z_aload_n (pc := 23) (i := 0) (j := 3) dX11_isLawfulAt_23 rfl rfl ?_
  refine z_ogetI (pc := 24) dX11_isLawfulAt_24 lf_RX11_208 sh_41 rfl rfl ?_
  refine z_if_ne (pc := 27) (tgt := 44) dX11_isLawfulAt_27 (by decide) (fun hc => ?_) (fun hc => ?_)
  · rw [if_neg hc] at hf
    refine z_aload_n (pc := 44) (i := 0) (j := 3) dX11_isLawfulAt_44 rfl rfl ?_
    refine z_ogetR (pc := 45) dX11_isLawfulAt_45 lf_RX11_48 sh_41 rfl rfl rfl ?_
    refine z_iconst (pc := 48) dX11_isLawfulAt_48 ki_0 ?_
    refine z_iload_n (pc := 49) (i := 2) (j := 2) dX11_isLawfulAt_49 rfl rfl ?_
    obtain ⟨m4, hm4, hf⟩ := Option.bind_eq_some_iff.mp hf
    refine z_oiast (pc := 50) dX11_isLawfulAt_50 hm4 ?_
    refine z_aload_n (pc := 51) (i := 0) (j := 3) dX11_isLawfulAt_51 rfl rfl ?_
    refine z_ogetR (pc := 52) dX11_isLawfulAt_52 lf_RX11_48 sh_41 rfl rfl rfl ?_
    refine z_iconst (pc := 55) dX11_isLawfulAt_55 ki_1 ?_
    refine z_iload_n (pc := 56) (i := 3) (j := 1) dX11_isLawfulAt_56 rfl rfl ?_
    obtain ⟨m5, hm5, hf⟩ := Option.bind_eq_some_iff.mp hf
    refine z_oiast (pc := 57) dX11_isLawfulAt_57 hm5 ?_
    refine z_aload_n (pc := 58) (i := 0) (j := 3) dX11_isLawfulAt_58 rfl rfl ?_
    refine z_ogetR (pc := 59) dX11_isLawfulAt_59 lf_RX11_48 sh_41 rfl rfl rfl ?_
    refine z_iconst (pc := 62) dX11_isLawfulAt_62 ki_2 ?_
    refine z_iload (pc := 63) (i := 4) (j := 0) dX11_isLawfulAt_63 rfl ?_
    obtain ⟨m6, hm6, hf⟩ := Option.bind_eq_some_iff.mp hf
    refine z_oiast (pc := 65) dX11_isLawfulAt_65 hm6 ?_
    refine z_aload_n (pc := 66) (i := 0) (j := 3) dX11_isLawfulAt_66 rfl rfl ?_
    refine z_ogetR (pc := 67) dX11_isLawfulAt_67 lf_RX11_48 sh_41 rfl rfl rfl ?_
    refine z_iconst (pc := 70) dX11_isLawfulAt_70 ki_3 ?_
    refine z_iload_n (pc := 71) (i := 1) (j := 4) dX11_isLawfulAt_71 rfl rfl ?_
    obtain ⟨m7, hm7, hf⟩ := Option.bind_eq_some_iff.mp hf
    refine z_oiast (pc := 72) dX11_isLawfulAt_72 hm7 ?_
    refine z_aload_n (pc := 73) (i := 0) (j := 3) dX11_isLawfulAt_73 rfl rfl ?_
    refine z_ogetR (pc := 74) dX11_isLawfulAt_74 lf_RX11_48 sh_41 rfl rfl rfl ?_
    refine z_iconst (pc := 77) dX11_isLawfulAt_77 ki_4 ?_
    refine z_aload_n (pc := 78) (i := 0) (j := 3) dX11_isLawfulAt_78 rfl rfl ?_
    refine z_ogetI (pc := 79) dX11_isLawfulAt_79 lf_RX11_212 sh_41 rfl rfl ?_
    obtain ⟨m8, hm8, hf⟩ := Option.bind_eq_some_iff.mp hf
    refine z_oiast (pc := 82) dX11_isLawfulAt_82 hm8 ?_
    refine z_aload_n (pc := 83) (i := 0) (j := 3) dX11_isLawfulAt_83 rfl rfl ?_
    refine z_ogetR (pc := 84) dX11_isLawfulAt_84 lf_RX11_48 sh_41 rfl rfl rfl ?_
    refine z_iconst (pc := 87) dX11_isLawfulAt_87 ki_5 ?_
    refine z_aload_n (pc := 88) (i := 0) (j := 3) dX11_isLawfulAt_88 rfl rfl ?_
    refine z_ogetR (pc := 89) dX11_isLawfulAt_89 lf_RX11_54 sh_41 rfl rfl rfl ?_
    refine z_iload_n (pc := 92) (i := 1) (j := 4) dX11_isLawfulAt_92 rfl rfl ?_
    obtain ⟨w9, hw9, hf⟩ := Option.bind_eq_some_iff.mp hf
    refine z_oiald (pc := 93) dX11_isLawfulAt_93 hw9 ?_
    obtain ⟨m10, hm10, hf⟩ := Option.bind_eq_some_iff.mp hf
    refine z_oiast (pc := 94) dX11_isLawfulAt_94 hm10 ?_
    refine z_aload_n (pc := 95) (i := 0) (j := 3) dX11_isLawfulAt_95 rfl rfl ?_
    refine z_iconst (pc := 96) dX11_isLawfulAt_96 ki_0 ?_
    obtain ⟨q11, hq11, hf⟩ := Option.bind_eq_some_iff.mp hf
    refine z_oVi (pc := 97) (as := [.int 0]) (rest := []) dX11_isLawfulAt_97 lm_RX11_218 mf_X11_gives mi_X11_gives mv_X11_gives rc_41 rfl rfl (Nat.le_of_ble_eq_true rfl) (c_X11_gives e (by omega) 0 m10 hq11) ?_
    refine z_if_eq (pc := 100) (tgt := 107) dX11_isLawfulAt_100 (by decide) (fun hc => ?_) (fun hc => ?_)
    · rw [if_pos hc] at hf
      refine z_iconst (pc := 107) dX11_isLawfulAt_107 ki_0 ?_
      obtain rfl := Option.some.inj hf
      rw [h0 _ hK]
      exact z_iret dX11_isLawfulAt_108 rfl rfl
    · rw [if_neg hc] at hf
      refine z_iconst (pc := 103) dX11_isLawfulAt_103 ki_1 ?_
      refine z_goto (pc := 104) (tgt := 108) dX11_isLawfulAt_104 (by decide) ?_
      obtain rfl := Option.some.inj hf
      rw [h0 _ hK]
      exact z_iret dX11_isLawfulAt_108 rfl rfl
  · rw [if_pos hc] at hf
    refine z_iload_n (pc := 30) (i := 2) (j := 2) dX11_isLawfulAt_30 rfl rfl ?_
    refine z_iload_n (pc := 31) (i := 3) (j := 1) dX11_isLawfulAt_31 rfl rfl ?_
    refine z_iload (pc := 32) (i := 4) (j := 0) dX11_isLawfulAt_32 rfl ?_
    refine z_iadd (pc := 34) dX11_isLawfulAt_34 ?_
    refine z_icmp_gt (pc := 35) (tgt := 42) dX11_isLawfulAt_35 (by decide) (fun hc => ?_) (fun hc => ?_)
    · rw [if_pos hc] at hf
      refine z_iconst (pc := 42) dX11_isLawfulAt_42 ki_0 ?_
      obtain rfl := Option.some.inj hf
      rw [h0 _ hK]
      exact z_iret dX11_isLawfulAt_43 rfl rfl
    · rw [if_neg hc] at hf
      refine z_iconst (pc := 38) dX11_isLawfulAt_38 ki_1 ?_
      refine z_goto (pc := 39) (tgt := 43) dX11_isLawfulAt_39 (by decide) ?_
      obtain rfl := Option.some.inj hf
      rw [h0 _ hK]
      exact z_iret dX11_isLawfulAt_43 rfl rfl
set_option maxHeartbeats 4000000 in
set_option maxRecDepth 100000 in
theorem c_X11_isLawfulAt (d : Nat) (hd : 3 ≤ d) (v1 : Int32) (m : ej_M) {q : (Int32 × ej_M)} (hf : f_X11_isLawfulAt v1 m = some q) : ej_Ct yX11_isLawfulAt cX11_isLawfulAt 5 (some .boolean) d [.ref 41, .int v1] (ej_sh, m) ((some (Value.int q.1), (ej_sh, q.2)) : Option Value × ej_H) := by
  obtain ⟨e, rfl⟩ : ∃ e, d = e + 1 := ⟨d - 1, by omega⟩
  exact z_met (by decide +kernel) (Nat.le_of_ble_eq_true rfl) (b_X11_isLawfulAt e (by omega) v1 m (K := fun z => ((some (Value.int q.1), (ej_sh, q.2)) : Option Value × ej_H) = (some (Value.int z.1), (ej_sh, z.2))) hf rfl (fun _ h => h))
def f_X11_isPlace (v1 : Int32) (m : ej_M) : Option (Int32 × ej_M) :=
  (f_X11_in v1 0 ((m.1 41 4) - 1) m).bind fun q1 =>
  oj_rz q1.1 q1.2
set_option maxHeartbeats 4000000 in
set_option maxRecDepth 100000 in
theorem b_X11_isPlace (e : Nat) (hd : 0 ≤ e) (v1 : Int32) (m : ej_M) {x : (Int32 × ej_M)} {res : Option Value × ej_H} {K : (Int32 × ej_M) → Prop} (hf : f_X11_isPlace v1 m = some x) (hK : K x) (h0 : ∀ q : (Int32 × ej_M), K q → res = (some (Value.int q.1), (ej_sh, q.2))) : ej_Z cX11_isPlace 2 (some .boolean) RX11 "isPlace" (e + 1) 0 [(0, .ref 41), (1, .int v1)] [] (ej_sh, m) res := by
  unfold f_X11_isPlace at hf
  refine z_iload_n (pc := 0) (i := 1) (j := 1) dX11_isPlace_0 rfl rfl ?_
  refine z_iconst (pc := 1) dX11_isPlace_1 ki_0 ?_
  refine z_aload_n (pc := 2) (i := 0) (j := 0) dX11_isPlace_2 rfl rfl ?_
  refine z_ogetI (pc := 3) dX11_isPlace_3 lf_RX11_108 sh_41 rfl rfl ?_
  refine z_iconst (pc := 6) dX11_isPlace_6 ki_1 ?_
  refine z_isub (pc := 7) dX11_isPlace_7 ?_
  obtain ⟨q1, hq1, hf⟩ := Option.bind_eq_some_iff.mp hf
  refine z_oSi (pc := 8) (as := [.int v1, .int 0, .int ((m.1 41 4) - 1)]) (rest := []) dX11_isPlace_8 lm_RX11_104 mf_X11_in ms_X11_in rfl rfl (Nat.le_of_ble_eq_true rfl) (c_X11_in e (by omega) v1 0 ((m.1 41 4) - 1) m hq1) ?_
  rw [h0 _ hK]
  exact z_oretz dX11_isPlace_11 rfl hf
set_option maxHeartbeats 4000000 in
set_option maxRecDepth 100000 in
theorem c_X11_isPlace (d : Nat) (hd : 1 ≤ d) (v1 : Int32) (m : ej_M) {q : (Int32 × ej_M)} (hf : f_X11_isPlace v1 m = some q) : ej_Ct yX11_isPlace cX11_isPlace 2 (some .boolean) d [.ref 41, .int v1] (ej_sh, m) ((some (Value.int q.1), (ej_sh, q.2)) : Option Value × ej_H) := by
  obtain ⟨e, rfl⟩ : ∃ e, d = e + 1 := ⟨d - 1, by omega⟩
  exact z_met (by decide +kernel) (Nat.le_of_ble_eq_true rfl) (b_X11_isPlace e (by omega) v1 m (K := fun z => ((some (Value.int q.1), (ej_sh, q.2)) : Option Value × ej_H) = (some (Value.int z.1), (ej_sh, z.2))) hf rfl (fun _ h => h))
def f_X11_isLawful_L2b (v1 : Int32) (m : ej_M) : Option ((Int32 × ej_M) ⊕ (Int32 × ej_M)) :=
  if (m.1 41 29) ≤ v1 then
    some (Sum.inr (1, m))
  else
    (f_X11_isLawfulAt v1 m).bind fun q1 =>
    if q1.1 = 0 then
      some (Sum.inr (0, q1.2))
    else
      some (Sum.inl ((v1 + 1), q1.2))
set_option maxHeartbeats 4000000 in
set_option maxRecDepth 100000 in
theorem b_X11_isLawful_L2b (e : Nat) (hd : 3 ≤ e) (v1 : Int32) (m : ej_M) {x : ((Int32 × ej_M) ⊕ (Int32 × ej_M))} {res : Option Value × ej_H} {K : ((Int32 × ej_M) ⊕ (Int32 × ej_M)) → Prop} (hf : f_X11_isLawful_L2b v1 m = some x) (hK : K x) (h1 : ∀ q : (Int32 × ej_M), K (Sum.inl q) → ej_Z cX11_isLawful 2 (some .boolean) RX11 "isLawful" (e + 1) 2 [(0, .ref 41), (1, .int q.1)] [] (ej_sh, q.2) res) (h0 : ∀ q : (Int32 × ej_M), K (Sum.inr q) → res = (some (Value.int q.1), (ej_sh, q.2))) : ej_Z cX11_isLawful 2 (some .boolean) RX11 "isLawful" (e + 1) 2 [(0, .ref 41), (1, .int v1)] [] (ej_sh, m) res := by
  unfold f_X11_isLawful_L2b at hf
  refine z_iload_n (pc := 2) (i := 1) (j := 1) dX11_isLawful_2 rfl rfl ?_
  refine z_aload_n (pc := 3) (i := 0) (j := 0) dX11_isLawful_3 rfl rfl ?_
  refine z_ogetI (pc := 4) dX11_isLawful_4 lf_RX11_212 sh_41 rfl rfl ?_
  refine z_icmp_ge (pc := 7) (tgt := 26) dX11_isLawful_7 (by decide) (fun hc => ?_) (fun hc => ?_)
  · rw [if_pos hc] at hf
    refine z_iconst (pc := 26) dX11_isLawful_26 ki_1 ?_
    obtain rfl := Option.some.inj hf
    rw [h0 _ hK]
    exact z_iret dX11_isLawful_27 rfl rfl
  · rw [if_neg hc] at hf
    refine z_aload_n (pc := 10) (i := 0) (j := 0) dX11_isLawful_10 rfl rfl ?_
    refine z_iload_n (pc := 11) (i := 1) (j := 1) dX11_isLawful_11 rfl rfl ?_
    obtain ⟨q1, hq1, hf⟩ := Option.bind_eq_some_iff.mp hf
    refine z_oVi (pc := 12) (as := [.int v1]) (rest := []) dX11_isLawful_12 lm_RX11_221 mf_X11_isLawfulAt mi_X11_isLawfulAt mv_X11_isLawfulAt rc_41 rfl rfl (Nat.le_of_ble_eq_true rfl) (c_X11_isLawfulAt e (by omega) v1 m hq1) ?_
    refine z_if_ne (pc := 15) (tgt := 20) dX11_isLawful_15 (by decide) (fun hc => ?_) (fun hc => ?_)
    · rw [if_neg hc] at hf
      refine z_iinc (pc := 20) (j := 1) (ls' := [(1, .int (v1 + 1)), (0, .ref 41)]) dX11_isLawful_20 rfl ki_1 (Nat.le_of_ble_eq_true rfl) rfl ?_
      refine z_goto (pc := 23) (tgt := 2) dX11_isLawful_23 (by decide) ?_
      obtain rfl := Option.some.inj hf
      exact z_pick (ls' := [(0, .ref 41), (1, .int (v1 + 1))]) [1, 0] rfl (h1 ((v1 + 1), q1.2) hK)
    · rw [if_pos hc] at hf
      refine z_iconst (pc := 18) dX11_isLawful_18 ki_0 ?_
      obtain rfl := Option.some.inj hf
      rw [h0 _ hK]
      exact z_iret dX11_isLawful_19 rfl rfl
def f_X11_isLawful_L2 (v1 : Int32) (m : ej_M) : Option (Int32 × ej_M) := oj_loop (fun q : (Int32 × ej_M) => f_X11_isLawful_L2b q.1 q.2) oj_FU (v1, m)
set_option maxHeartbeats 4000000 in
set_option maxRecDepth 100000 in
theorem b_X11_isLawful_L2 (e : Nat) (hd : 3 ≤ e) (v1 : Int32) (m : ej_M) {x : (Int32 × ej_M)} {res : Option Value × ej_H} {K : (Int32 × ej_M) → Prop} (hf : f_X11_isLawful_L2 v1 m = some x) (hK : K x) (h0 : ∀ q : (Int32 × ej_M), K q → res = (some (Value.int q.1), (ej_sh, q.2))) : ej_Z cX11_isLawful 2 (some .boolean) RX11 "isLawful" (e + 1) 2 [(0, .ref 41), (1, .int v1)] [] (ej_sh, m) res :=
  oj_loop_Z (body := fun q : (Int32 × ej_M) => f_X11_isLawful_L2b q.1 q.2) (P := fun q : (Int32 × ej_M) => ej_Z cX11_isLawful 2 (some .boolean) RX11 "isLawful" (e + 1) 2 [(0, .ref 41), (1, .int q.1)] [] (ej_sh, q.2) res) (K := K) (fun s x hb hl hr => b_X11_isLawful_L2b e hd  s.1 s.2 (K := fun x => (∀ s' : (Int32 × ej_M), x = Sum.inl s' → ej_Z cX11_isLawful 2 (some .boolean) RX11 "isLawful" (e + 1) 2 [(0, .ref 41), (1, .int s'.1)] [] (ej_sh, s'.2) res) ∧ ∀ e, x = Sum.inr e → K e) hb ⟨hl, hr⟩ (fun q hq => hq.1 q rfl) (fun q hq => h0 q (hq.2 _ rfl))) oj_FU (v1, m) x hf hK
def f_X11_isLawful  (m : ej_M) : Option (Int32 × ej_M) :=
  f_X11_isLawful_L2 0 m
set_option maxHeartbeats 4000000 in
set_option maxRecDepth 100000 in
theorem b_X11_isLawful (e : Nat) (hd : 3 ≤ e)  (m : ej_M) {x : (Int32 × ej_M)} {res : Option Value × ej_H} {K : (Int32 × ej_M) → Prop} (hf : f_X11_isLawful  m = some x) (hK : K x) (h0 : ∀ q : (Int32 × ej_M), K q → res = (some (Value.int q.1), (ej_sh, q.2))) : ej_Z cX11_isLawful 2 (some .boolean) RX11 "isLawful" (e + 1) 0 [(0, .ref 41)] [] (ej_sh, m) res := by
  unfold f_X11_isLawful at hf
  refine z_iconst (pc := 0) dX11_isLawful_0 ki_0 ?_
  refine z_istore_n (pc := 1) (i := 1) (ls' := [(1, .int 0), (0, .ref 41)]) dX11_isLawful_1 rfl (Nat.le_of_ble_eq_true rfl) rfl ?_
  exact z_pick [1, 0] rfl (b_X11_isLawful_L2 e hd 0 m (K := K) hf hK  h0)
set_option maxHeartbeats 4000000 in
set_option maxRecDepth 100000 in
theorem c_X11_isLawful (d : Nat) (hd : 4 ≤ d)  (m : ej_M) {q : (Int32 × ej_M)} (hf : f_X11_isLawful  m = some q) : ej_Ct yX11_isLawful cX11_isLawful 2 (some .boolean) d [.ref 41] (ej_sh, m) ((some (Value.int q.1), (ej_sh, q.2)) : Option Value × ej_H) := by
  obtain ⟨e, rfl⟩ : ∃ e, d = e + 1 := ⟨d - 1, by omega⟩
  exact z_met (by decide +kernel) (Nat.le_of_ble_eq_true rfl) (b_X11_isLawful e (by omega)  m (K := fun z => ((some (Value.int q.1), (ej_sh, q.2)) : Option Value × ej_H) = (some (Value.int z.1), (ej_sh, z.2))) hf rfl (fun _ h => h))
def f_X11_see_L10b (v1 : Int32) (m : ej_M) : Option ((Int32 × ej_M) ⊕ (Unit × ej_M)) :=
  if (m.1 41 4) ≤ v1 then
    some (Sum.inr ((), m))
  else
    (oj_ld 0 m 43 v1).bind fun w1 =>
    (oj_st 0 m 56 v1 w1).bind fun m2 =>
    some (Sum.inl ((v1 + 1), m2))
set_option maxHeartbeats 4000000 in
set_option maxRecDepth 100000 in
theorem b_X11_see_L10b (d : Nat) (v1 : Int32) (m : ej_M) {x : ((Int32 × ej_M) ⊕ (Unit × ej_M))} {res : Option Value × ej_H} {K : ((Int32 × ej_M) ⊕ (Unit × ej_M)) → Prop} (hf : f_X11_see_L10b v1 m = some x) (hK : K x) (h1 : ∀ q : (Int32 × ej_M), K (Sum.inl q) → ej_Z cX11_see 2 none RX11 "see" d 10 [(0, .ref 41), (1, .int q.1)] [] (ej_sh, q.2) res) (h0 : ∀ q : (Unit × ej_M), K (Sum.inr q) → res = (none, (ej_sh, q.2))) : ej_Z cX11_see 2 none RX11 "see" d 10 [(0, .ref 41), (1, .int v1)] [] (ej_sh, m) res := by
  unfold f_X11_see_L10b at hf
  refine z_iload_n (pc := 10) (i := 1) (j := 1) dX11_see_10 rfl rfl ?_
  refine z_aload_n (pc := 11) (i := 0) (j := 0) dX11_see_11 rfl rfl ?_
  refine z_ogetI (pc := 12) dX11_see_12 lf_RX11_108 sh_41 rfl rfl ?_
  refine z_icmp_ge (pc := 15) (tgt := 36) dX11_see_15 (by decide) (fun hc => ?_) (fun hc => ?_)
  · rw [if_pos hc] at hf
    obtain rfl := Option.some.inj hf
    rw [h0 _ hK]
    exact z_ret dX11_see_36 rfl
  · rw [if_neg hc] at hf
    refine z_aload_n (pc := 18) (i := 0) (j := 0) dX11_see_18 rfl rfl ?_
    refine z_ogetR (pc := 19) dX11_see_19 lf_RX11_54 sh_41 rfl rfl rfl ?_
    refine z_iload_n (pc := 22) (i := 1) (j := 1) dX11_see_22 rfl rfl ?_
    refine z_aload_n (pc := 23) (i := 0) (j := 0) dX11_see_23 rfl rfl ?_
    refine z_ogetR (pc := 24) dX11_see_24 lf_RX11_13 sh_41 rfl rfl rfl ?_
    refine z_iload_n (pc := 27) (i := 1) (j := 1) dX11_see_27 rfl rfl ?_
    obtain ⟨w1, hw1, hf⟩ := Option.bind_eq_some_iff.mp hf
    refine z_oiald (pc := 28) dX11_see_28 hw1 ?_
    obtain ⟨m2, hm2, hf⟩ := Option.bind_eq_some_iff.mp hf
    refine z_oiast (pc := 29) dX11_see_29 hm2 ?_
    refine z_iinc (pc := 30) (j := 1) (ls' := [(1, .int (v1 + 1)), (0, .ref 41)]) dX11_see_30 rfl ki_1 (Nat.le_of_ble_eq_true rfl) rfl ?_
    refine z_goto (pc := 33) (tgt := 10) dX11_see_33 (by decide) ?_
    obtain rfl := Option.some.inj hf
    exact z_pick (ls' := [(0, .ref 41), (1, .int (v1 + 1))]) [1, 0] rfl (h1 ((v1 + 1), m2) hK)
def f_X11_see_L10 (v1 : Int32) (m : ej_M) : Option (Unit × ej_M) := oj_loop (fun q : (Int32 × ej_M) => f_X11_see_L10b q.1 q.2) oj_FU (v1, m)
set_option maxHeartbeats 4000000 in
set_option maxRecDepth 100000 in
theorem b_X11_see_L10 (d : Nat) (v1 : Int32) (m : ej_M) {x : (Unit × ej_M)} {res : Option Value × ej_H} {K : (Unit × ej_M) → Prop} (hf : f_X11_see_L10 v1 m = some x) (hK : K x) (h0 : ∀ q : (Unit × ej_M), K q → res = (none, (ej_sh, q.2))) : ej_Z cX11_see 2 none RX11 "see" d 10 [(0, .ref 41), (1, .int v1)] [] (ej_sh, m) res :=
  oj_loop_Z (body := fun q : (Int32 × ej_M) => f_X11_see_L10b q.1 q.2) (P := fun q : (Int32 × ej_M) => ej_Z cX11_see 2 none RX11 "see" d 10 [(0, .ref 41), (1, .int q.1)] [] (ej_sh, q.2) res) (K := K) (fun s x hb hl hr => b_X11_see_L10b d  s.1 s.2 (K := fun x => (∀ s' : (Int32 × ej_M), x = Sum.inl s' → ej_Z cX11_see 2 none RX11 "see" d 10 [(0, .ref 41), (1, .int s'.1)] [] (ej_sh, s'.2) res) ∧ ∀ e, x = Sum.inr e → K e) hb ⟨hl, hr⟩ (fun q hq => hq.1 q rfl) (fun q hq => h0 q (hq.2 _ rfl))) oj_FU (v1, m) x hf hK
def f_X11_see  (m : ej_M) : Option (Unit × ej_M) :=
  (oj_pf m 41 29 (m.1 41 4)).bind fun m1 =>
  f_X11_see_L10 0 m1
set_option maxHeartbeats 4000000 in
set_option maxRecDepth 100000 in
theorem b_X11_see (d : Nat)  (m : ej_M) {x : (Unit × ej_M)} {res : Option Value × ej_H} {K : (Unit × ej_M) → Prop} (hf : f_X11_see  m = some x) (hK : K x) (h0 : ∀ q : (Unit × ej_M), K q → res = (none, (ej_sh, q.2))) : ej_Z cX11_see 2 none RX11 "see" d 0 [(0, .ref 41)] [] (ej_sh, m) res := by
  unfold f_X11_see at hf
  refine z_aload_n (pc := 0) (i := 0) (j := 0) dX11_see_0 rfl rfl ?_
  refine z_aload_n (pc := 1) (i := 0) (j := 0) dX11_see_1 rfl rfl ?_
  refine z_ogetI (pc := 2) dX11_see_2 lf_RX11_108 sh_41 rfl rfl ?_
  obtain ⟨m1, hm1, hf⟩ := Option.bind_eq_some_iff.mp hf
  refine z_oputI (pc := 5) dX11_see_5 lf_RX11_212 sh_41 rfl hm1 ?_
  refine z_iconst (pc := 8) dX11_see_8 ki_0 ?_
  refine z_istore_n (pc := 9) (i := 1) (ls' := [(1, .int 0), (0, .ref 41)]) dX11_see_9 rfl (Nat.le_of_ble_eq_true rfl) rfl ?_
  exact z_pick [1, 0] rfl (b_X11_see_L10 d 0 m1 (K := K) hf hK  h0)
set_option maxHeartbeats 4000000 in
set_option maxRecDepth 100000 in
theorem c_X11_see (d : Nat) (hd : 0 ≤ d)  (m : ej_M) {q : (Unit × ej_M)} (hf : f_X11_see  m = some q) : ej_Ct yX11_see cX11_see 2 none d [.ref 41] (ej_sh, m) ((none, (ej_sh, q.2)) : Option Value × ej_H) := by
  exact z_met (by decide +kernel) (Nat.le_of_ble_eq_true rfl) (b_X11_see d  m (K := fun z => ((none, (ej_sh, q.2)) : Option Value × ej_H) = (none, (ej_sh, z.2))) hf rfl (fun _ h => h))
def f_X11_isRowLawful  (m : ej_M) : Option (Int32 × ej_M) :=
  (f_X11_see m).bind fun q1 =>
  (f_X11_isLawful q1.2).bind fun q2 =>
  oj_rz q2.1 q2.2
set_option maxHeartbeats 4000000 in
set_option maxRecDepth 100000 in
theorem b_X11_isRowLawful (e : Nat) (hd : 4 ≤ e)  (m : ej_M) {x : (Int32 × ej_M)} {res : Option Value × ej_H} {K : (Int32 × ej_M) → Prop} (hf : f_X11_isRowLawful  m = some x) (hK : K x) (h0 : ∀ q : (Int32 × ej_M), K q → res = (some (Value.int q.1), (ej_sh, q.2))) : ej_Z cX11_isRowLawful 1 (some .boolean) RX11 "isRowLawful" (e + 1) 0 [(0, .ref 41)] [] (ej_sh, m) res := by
  unfold f_X11_isRowLawful at hf
  refine z_aload_n (pc := 0) (i := 0) (j := 0) dX11_isRowLawful_0 rfl rfl ?_
  obtain ⟨q1, hq1, hf⟩ := Option.bind_eq_some_iff.mp hf
  refine z_oVv (pc := 1) (as := []) (rest := []) dX11_isRowLawful_1 lm_RX11_227 mf_X11_see mi_X11_see mv_X11_see rc_41 rfl rfl (Nat.le_of_ble_eq_true rfl) (c_X11_see e (by omega) m hq1) ?_
  refine z_aload_n (pc := 4) (i := 0) (j := 0) dX11_isRowLawful_4 rfl rfl ?_
  obtain ⟨q2, hq2, hf⟩ := Option.bind_eq_some_iff.mp hf
  refine z_oVi (pc := 5) (as := []) (rest := []) dX11_isRowLawful_5 lm_RX11_230 mf_X11_isLawful mi_X11_isLawful mv_X11_isLawful rc_41 rfl rfl (Nat.le_of_ble_eq_true rfl) (c_X11_isLawful e (by omega) q1.2 hq2) ?_
  rw [h0 _ hK]
  exact z_oretz dX11_isRowLawful_8 rfl hf
set_option maxHeartbeats 4000000 in
set_option maxRecDepth 100000 in
theorem c_X11_isRowLawful (d : Nat) (hd : 5 ≤ d)  (m : ej_M) {q : (Int32 × ej_M)} (hf : f_X11_isRowLawful  m = some q) : ej_Ct yX11_isRowLawful cX11_isRowLawful 1 (some .boolean) d [.ref 41] (ej_sh, m) ((some (Value.int q.1), (ej_sh, q.2)) : Option Value × ej_H) := by
  obtain ⟨e, rfl⟩ : ∃ e, d = e + 1 := ⟨d - 1, by omega⟩
  exact z_met (by decide +kernel) (Nat.le_of_ble_eq_true rfl) (b_X11_isRowLawful e (by omega)  m (K := fun z => ((some (Value.int q.1), (ej_sh, q.2)) : Option Value × ej_H) = (some (Value.int z.1), (ej_sh, z.2))) hf rfl (fun _ h => h))
def f_X11_placeOf_L2b (v1 : Int32) (v2 : Int32) (m : ej_M) : Option ((Int32 × ej_M) ⊕ (Int32 × ej_M)) :=
  if (m.1 41 4) ≤ v2 then
    some (Sum.inr ((-2), m))
  else
    (oj_ld 0 m 43 v2).bind fun w1 =>
    if w1 = v1 then
      some (Sum.inr (v2, m))
    else
      some (Sum.inl ((v2 + 1), m))
set_option maxHeartbeats 4000000 in
set_option maxRecDepth 100000 in
theorem b_X11_placeOf_L2b (d : Nat) (v1 : Int32) (v2 : Int32) (m : ej_M) {x : ((Int32 × ej_M) ⊕ (Int32 × ej_M))} {res : Option Value × ej_H} {K : ((Int32 × ej_M) ⊕ (Int32 × ej_M)) → Prop} (hf : f_X11_placeOf_L2b v1 v2 m = some x) (hK : K x) (h1 : ∀ q : (Int32 × ej_M), K (Sum.inl q) → ej_Z cX11_placeOf 3 (some .int) RX11 "placeOf" d 2 [(0, .ref 41), (1, .int v1), (2, .int q.1)] [] (ej_sh, q.2) res) (h0 : ∀ q : (Int32 × ej_M), K (Sum.inr q) → res = (some (Value.int q.1), (ej_sh, q.2))) : ej_Z cX11_placeOf 3 (some .int) RX11 "placeOf" d 2 [(0, .ref 41), (1, .int v1), (2, .int v2)] [] (ej_sh, m) res := by
  unfold f_X11_placeOf_L2b at hf
  refine z_iload_n (pc := 2) (i := 2) (j := 2) dX11_placeOf_2 rfl rfl ?_
  refine z_aload_n (pc := 3) (i := 0) (j := 0) dX11_placeOf_3 rfl rfl ?_
  refine z_ogetI (pc := 4) dX11_placeOf_4 lf_RX11_108 sh_41 rfl rfl ?_
  refine z_icmp_ge (pc := 7) (tgt := 28) dX11_placeOf_7 (by decide) (fun hc => ?_) (fun hc => ?_)
  · rw [if_pos hc] at hf
    refine z_bipush (pc := 28) dX11_placeOf_28 kb_n2 ?_
    obtain rfl := Option.some.inj hf
    rw [h0 _ hK]
    exact z_iret dX11_placeOf_30 rfl rfl
  · rw [if_neg hc] at hf
    refine z_aload_n (pc := 10) (i := 0) (j := 0) dX11_placeOf_10 rfl rfl ?_
    refine z_ogetR (pc := 11) dX11_placeOf_11 lf_RX11_13 sh_41 rfl rfl rfl ?_
    refine z_iload_n (pc := 14) (i := 2) (j := 2) dX11_placeOf_14 rfl rfl ?_
    obtain ⟨w1, hw1, hf⟩ := Option.bind_eq_some_iff.mp hf
    refine z_oiald (pc := 15) dX11_placeOf_15 hw1 ?_
    refine z_iload_n (pc := 16) (i := 1) (j := 1) dX11_placeOf_16 rfl rfl ?_
    refine z_icmp_ne (pc := 17) (tgt := 22) dX11_placeOf_17 (by decide) (fun hc => ?_) (fun hc => ?_)
    · rw [if_neg hc] at hf
      refine z_iinc (pc := 22) (j := 2) (ls' := [(2, .int (v2 + 1)), (0, .ref 41), (1, .int v1)]) dX11_placeOf_22 rfl ki_1 (Nat.le_of_ble_eq_true rfl) rfl ?_
      refine z_goto (pc := 25) (tgt := 2) dX11_placeOf_25 (by decide) ?_
      obtain rfl := Option.some.inj hf
      exact z_pick (ls' := [(0, .ref 41), (1, .int v1), (2, .int (v2 + 1))]) [1, 2, 0] rfl (h1 ((v2 + 1), m) hK)
    · rw [if_pos hc] at hf
      refine z_iload_n (pc := 20) (i := 2) (j := 2) dX11_placeOf_20 rfl rfl ?_
      obtain rfl := Option.some.inj hf
      rw [h0 _ hK]
      exact z_iret dX11_placeOf_21 rfl rfl
def f_X11_placeOf_L2 (v1 : Int32) (v2 : Int32) (m : ej_M) : Option (Int32 × ej_M) := oj_loop (fun q : (Int32 × ej_M) => f_X11_placeOf_L2b v1 q.1 q.2) oj_FU (v2, m)
set_option maxHeartbeats 4000000 in
set_option maxRecDepth 100000 in
theorem b_X11_placeOf_L2 (d : Nat) (v1 : Int32) (v2 : Int32) (m : ej_M) {x : (Int32 × ej_M)} {res : Option Value × ej_H} {K : (Int32 × ej_M) → Prop} (hf : f_X11_placeOf_L2 v1 v2 m = some x) (hK : K x) (h0 : ∀ q : (Int32 × ej_M), K q → res = (some (Value.int q.1), (ej_sh, q.2))) : ej_Z cX11_placeOf 3 (some .int) RX11 "placeOf" d 2 [(0, .ref 41), (1, .int v1), (2, .int v2)] [] (ej_sh, m) res :=
  oj_loop_Z (body := fun q : (Int32 × ej_M) => f_X11_placeOf_L2b v1 q.1 q.2) (P := fun q : (Int32 × ej_M) => ej_Z cX11_placeOf 3 (some .int) RX11 "placeOf" d 2 [(0, .ref 41), (1, .int v1), (2, .int q.1)] [] (ej_sh, q.2) res) (K := K) (fun s x hb hl hr => b_X11_placeOf_L2b d v1  s.1 s.2 (K := fun x => (∀ s' : (Int32 × ej_M), x = Sum.inl s' → ej_Z cX11_placeOf 3 (some .int) RX11 "placeOf" d 2 [(0, .ref 41), (1, .int v1), (2, .int s'.1)] [] (ej_sh, s'.2) res) ∧ ∀ e, x = Sum.inr e → K e) hb ⟨hl, hr⟩ (fun q hq => hq.1 q rfl) (fun q hq => h0 q (hq.2 _ rfl))) oj_FU (v2, m) x hf hK
def f_X11_placeOf (v1 : Int32) (m : ej_M) : Option (Int32 × ej_M) :=
  f_X11_placeOf_L2 v1 0 m
set_option maxHeartbeats 4000000 in
set_option maxRecDepth 100000 in
theorem b_X11_placeOf (d : Nat) (v1 : Int32) (m : ej_M) {x : (Int32 × ej_M)} {res : Option Value × ej_H} {K : (Int32 × ej_M) → Prop} (hf : f_X11_placeOf v1 m = some x) (hK : K x) (h0 : ∀ q : (Int32 × ej_M), K q → res = (some (Value.int q.1), (ej_sh, q.2))) : ej_Z cX11_placeOf 3 (some .int) RX11 "placeOf" d 0 [(0, .ref 41), (1, .int v1)] [] (ej_sh, m) res := by
  unfold f_X11_placeOf at hf
  refine z_iconst (pc := 0) dX11_placeOf_0 ki_0 ?_
  refine z_istore_n (pc := 1) (i := 2) (ls' := [(2, .int 0), (0, .ref 41), (1, .int v1)]) dX11_placeOf_1 rfl (Nat.le_of_ble_eq_true rfl) rfl ?_
  exact z_pick [1, 2, 0] rfl (b_X11_placeOf_L2 d v1 0 m (K := K) hf hK  h0)
set_option maxHeartbeats 4000000 in
set_option maxRecDepth 100000 in
theorem c_X11_placeOf (d : Nat) (hd : 0 ≤ d) (v1 : Int32) (m : ej_M) {q : (Int32 × ej_M)} (hf : f_X11_placeOf v1 m = some q) : ej_Ct yX11_placeOf cX11_placeOf 3 (some .int) d [.ref 41, .int v1] (ej_sh, m) ((some (Value.int q.1), (ej_sh, q.2)) : Option Value × ej_H) := by
  exact z_met (by decide +kernel) (Nat.le_of_ble_eq_true rfl) (b_X11_placeOf d v1 m (K := fun z => ((some (Value.int q.1), (ej_sh, q.2)) : Option Value × ej_H) = (some (Value.int z.1), (ej_sh, z.2))) hf rfl (fun _ h => h))
def f_X11_of (v1 : Int32) (v2 : Int32) (m : ej_M) : Option (Int32 × ej_M) :=
  (f_X11_in v2 0 2 m).bind fun q1 =>
  if q1.1 = 0 then
    if v2 = 10 then
      (f_X11_isPlace v1 q1.2).bind fun q4 =>
      if q4.1 = 0 then
        some ((-1), q4.2)
      else
        (oj_ld 0 q4.2 43 v1).bind fun w5 =>
        some (w5, q4.2)
    else
      if v1 = 0 then
        (f_X11_in v2 20 23 q1.2).bind fun q2 =>
        if q2.1 = 0 then
          some ((-1), q2.2)
        else
          if v2 = 20 then
            some ((q2.2.1 41 5), q2.2)
          else
            if v2 = 21 then
              (f_X11_isRowLawful q2.2).bind fun q3 =>
              if q3.1 = 0 then
                some (0, q3.2)
              else
                some (1, q3.2)
            else
              if v2 = 22 then
                some ((q2.2.1 41 6), q2.2)
              else
                some ((q2.2.1 41 7), q2.2)
      else
        some ((-1), q1.2)
  else
    (f_X11_isStone v1 q1.2).bind fun q6 =>
    if q6.1 = 0 then
      some ((-1), q6.2)
    else
      (f_X11_placeOf v1 q6.2).bind fun q7 =>
      if 2 ≤ v2 then
        (f_X11_see q7.2).bind fun q8 =>
        if 0 ≤ q7.1 then
          (f_X11_isLawfulAt q7.1 q8.2).bind fun q9 =>
          if q9.1 = 0 then
            some (0, q9.2)
          else
            some (1, q9.2)
        else
          some ((-2), q8.2)
      else
        if v2 = 0 then
          (oj_ld 0 q7.2 42 v1).bind fun w10 =>
          some (w10, q7.2)
        else
          some (q7.1, q7.2)
set_option maxHeartbeats 4000000 in
set_option maxRecDepth 100000 in
theorem b_X11_of (e : Nat) (hd : 5 ≤ e) (v1 : Int32) (v2 : Int32) (m : ej_M) {x : (Int32 × ej_M)} {res : Option Value × ej_H} {K : (Int32 × ej_M) → Prop} (hf : f_X11_of v1 v2 m = some x) (hK : K x) (h0 : ∀ q : (Int32 × ej_M), K q → res = (some (Value.int q.1), (ej_sh, q.2))) : ej_Z cX11_of 4 (some .int) RX11 "of" (e + 1) 0 [(0, .ref 41), (1, .int v1), (2, .int v2)] [] (ej_sh, m) res := by
  unfold f_X11_of at hf
  refine z_iload_n (pc := 0) (i := 2) (j := 2) dX11_of_0 rfl rfl ?_
  refine z_iconst (pc := 1) dX11_of_1 ki_0 ?_
  refine z_iconst (pc := 2) dX11_of_2 ki_2 ?_
  obtain ⟨q1, hq1, hf⟩ := Option.bind_eq_some_iff.mp hf
  refine z_oSi (pc := 3) (as := [.int v2, .int 0, .int 2]) (rest := []) dX11_of_3 lm_RX11_104 mf_X11_in ms_X11_in rfl rfl (Nat.le_of_ble_eq_true rfl) (c_X11_in e (by omega) v2 0 2 m hq1) ?_
  refine z_if_eq (pc := 6) (tgt := 72) dX11_of_6 (by decide) (fun hc => ?_) (fun hc => ?_)
  · rw [if_pos hc] at hf
    refine z_iload_n (pc := 72) (i := 2) (j := 2) dX11_of_72 rfl rfl ?_
    refine z_bipush (pc := 73) dX11_of_73 kb_10 ?_
    refine z_icmp_ne (pc := 75) (tgt := 97) dX11_of_75 (by decide) (fun hc => ?_) (fun hc => ?_)
    · rw [if_neg hc] at hf
      refine z_iload_n (pc := 97) (i := 1) (j := 1) dX11_of_97 rfl rfl ?_
      refine z_if_ne (pc := 98) (tgt := 112) dX11_of_98 (by decide) (fun hc => ?_) (fun hc => ?_)
      · rw [if_neg hc] at hf
        refine z_iconst (pc := 112) dX11_of_112 ki_n1 ?_
        obtain rfl := Option.some.inj hf
        rw [h0 _ hK]
        exact z_iret dX11_of_113 rfl rfl
      · rw [if_pos hc] at hf
        refine z_iload_n (pc := 101) (i := 2) (j := 2) dX11_of_101 rfl rfl ?_
        refine z_bipush (pc := 102) dX11_of_102 kb_20 ?_
        refine z_bipush (pc := 104) dX11_of_104 kb_23 ?_
        obtain ⟨q2, hq2, hf⟩ := Option.bind_eq_some_iff.mp hf
        refine z_oSi (pc := 106) (as := [.int v2, .int 20, .int 23]) (rest := []) dX11_of_106 lm_RX11_104 mf_X11_in ms_X11_in rfl rfl (Nat.le_of_ble_eq_true rfl) (c_X11_in e (by omega) v2 20 23 q1.2 hq2) ?_
        refine z_if_ne (pc := 109) (tgt := 114) dX11_of_109 (by decide) (fun hc => ?_) (fun hc => ?_)
        · rw [if_neg hc] at hf
          refine z_iload_n (pc := 114) (i := 2) (j := 2) dX11_of_114 rfl rfl ?_
          refine z_bipush (pc := 115) dX11_of_115 kb_20 ?_
          refine z_icmp_ne (pc := 117) (tgt := 127) dX11_of_117 (by decide) (fun hc => ?_) (fun hc => ?_)
          · rw [if_neg hc] at hf
            refine z_iload_n (pc := 127) (i := 2) (j := 2) dX11_of_127 rfl rfl ?_
            refine z_bipush (pc := 128) dX11_of_128 kb_21 ?_
            refine z_icmp_ne (pc := 130) (tgt := 148) dX11_of_130 (by decide) (fun hc => ?_) (fun hc => ?_)
            · rw [if_neg hc] at hf
              refine z_iload_n (pc := 148) (i := 2) (j := 2) dX11_of_148 rfl rfl ?_
              refine z_bipush (pc := 149) dX11_of_149 kb_22 ?_
              refine z_icmp_ne (pc := 151) (tgt := 161) dX11_of_151 (by decide) (fun hc => ?_) (fun hc => ?_)
              · rw [if_neg hc] at hf
                refine z_aload_n (pc := 161) (i := 0) (j := 0) dX11_of_161 rfl rfl ?_
                refine z_ogetI (pc := 162) dX11_of_162 lf_RX11_245 sh_41 rfl rfl ?_
                obtain rfl := Option.some.inj hf
                rw [h0 _ hK]
                exact z_iret dX11_of_165 rfl rfl
              · rw [if_pos hc] at hf
                refine z_aload_n (pc := 154) (i := 0) (j := 0) dX11_of_154 rfl rfl ?_
                refine z_ogetI (pc := 155) dX11_of_155 lf_RX11_242 sh_41 rfl rfl ?_
                refine z_goto (pc := 158) (tgt := 165) dX11_of_158 (by decide) ?_
                obtain rfl := Option.some.inj hf
                rw [h0 _ hK]
                exact z_iret dX11_of_165 rfl rfl
            · rw [if_pos hc] at hf
              refine z_aload_n (pc := 133) (i := 0) (j := 0) dX11_of_133 rfl rfl ?_
              obtain ⟨q3, hq3, hf⟩ := Option.bind_eq_some_iff.mp hf
              refine z_oVi (pc := 134) (as := []) (rest := []) dX11_of_134 lm_RX11_239 mf_X11_isRowLawful mi_X11_isRowLawful mv_X11_isRowLawful rc_41 rfl rfl (Nat.le_of_ble_eq_true rfl) (c_X11_isRowLawful e (by omega) q2.2 hq3) ?_
              refine z_if_eq (pc := 137) (tgt := 144) dX11_of_137 (by decide) (fun hc => ?_) (fun hc => ?_)
              · rw [if_pos hc] at hf
                refine z_iconst (pc := 144) dX11_of_144 ki_0 ?_
                refine z_goto (pc := 145) (tgt := 165) dX11_of_145 (by decide) ?_
                obtain rfl := Option.some.inj hf
                rw [h0 _ hK]
                exact z_iret dX11_of_165 rfl rfl
              · rw [if_neg hc] at hf
                refine z_iconst (pc := 140) dX11_of_140 ki_1 ?_
                refine z_goto (pc := 141) (tgt := 165) dX11_of_141 (by decide) ?_
                obtain rfl := Option.some.inj hf
                rw [h0 _ hK]
                exact z_iret dX11_of_165 rfl rfl
          · rw [if_pos hc] at hf
            refine z_aload_n (pc := 120) (i := 0) (j := 0) dX11_of_120 rfl rfl ?_
            refine z_ogetI (pc := 121) dX11_of_121 lf_RX11_119 sh_41 rfl rfl ?_
            refine z_goto (pc := 124) (tgt := 165) dX11_of_124 (by decide) ?_
            obtain rfl := Option.some.inj hf
            rw [h0 _ hK]
            exact z_iret dX11_of_165 rfl rfl
        · rw [if_pos hc] at hf
          refine z_iconst (pc := 112) dX11_of_112 ki_n1 ?_
          obtain rfl := Option.some.inj hf
          rw [h0 _ hK]
          exact z_iret dX11_of_113 rfl rfl
    · rw [if_pos hc] at hf
      refine z_aload_n (pc := 78) (i := 0) (j := 0) dX11_of_78 rfl rfl ?_
      refine z_iload_n (pc := 79) (i := 1) (j := 1) dX11_of_79 rfl rfl ?_
      obtain ⟨q4, hq4, hf⟩ := Option.bind_eq_some_iff.mp hf
      refine z_oVi (pc := 80) (as := [.int v1]) (rest := []) dX11_of_80 lm_RX11_236 mf_X11_isPlace mi_X11_isPlace mv_X11_isPlace rc_41 rfl rfl (Nat.le_of_ble_eq_true rfl) (c_X11_isPlace e (by omega) v1 q1.2 hq4) ?_
      refine z_if_eq (pc := 83) (tgt := 95) dX11_of_83 (by decide) (fun hc => ?_) (fun hc => ?_)
      · rw [if_pos hc] at hf
        refine z_iconst (pc := 95) dX11_of_95 ki_n1 ?_
        obtain rfl := Option.some.inj hf
        rw [h0 _ hK]
        exact z_iret dX11_of_96 rfl rfl
      · rw [if_neg hc] at hf
        refine z_aload_n (pc := 86) (i := 0) (j := 0) dX11_of_86 rfl rfl ?_
        refine z_ogetR (pc := 87) dX11_of_87 lf_RX11_13 sh_41 rfl rfl rfl ?_
        refine z_iload_n (pc := 90) (i := 1) (j := 1) dX11_of_90 rfl rfl ?_
        obtain ⟨w5, hw5, hf⟩ := Option.bind_eq_some_iff.mp hf
        refine z_oiald (pc := 91) dX11_of_91 hw5 ?_
        refine z_goto (pc := 92) (tgt := 96) dX11_of_92 (by decide) ?_
        obtain rfl := Option.some.inj hf
        rw [h0 _ hK]
        exact z_iret dX11_of_96 rfl rfl
  · rw [if_neg hc] at hf
    refine z_aload_n (pc := 9) (i := 0) (j := 0) dX11_of_9 rfl rfl ?_
    refine z_iload_n (pc := 10) (i := 1) (j := 1) dX11_of_10 rfl rfl ?_
    obtain ⟨q6, hq6, hf⟩ := Option.bind_eq_some_iff.mp hf
    refine z_oVi (pc := 11) (as := [.int v1]) (rest := []) dX11_of_11 lm_RX11_136 mf_X11_isStone mi_X11_isStone mv_X11_isStone rc_41 rfl rfl (Nat.le_of_ble_eq_true rfl) (c_X11_isStone e (by omega) v1 q1.2 hq6) ?_
    refine z_if_ne (pc := 14) (tgt := 19) dX11_of_14 (by decide) (fun hc => ?_) (fun hc => ?_)
    · rw [if_neg hc] at hf
      refine z_aload_n (pc := 19) (i := 0) (j := 0) dX11_of_19 rfl rfl ?_
      refine z_iload_n (pc := 20) (i := 1) (j := 1) dX11_of_20 rfl rfl ?_
      obtain ⟨q7, hq7, hf⟩ := Option.bind_eq_some_iff.mp hf
      refine z_oVi (pc := 21) (as := [.int v1]) (rest := []) dX11_of_21 lm_RX11_233 mf_X11_placeOf mi_X11_placeOf mv_X11_placeOf rc_41 rfl rfl (Nat.le_of_ble_eq_true rfl) (c_X11_placeOf e (by omega) v1 q6.2 hq7) ?_
      refine z_istore_n (pc := 24) (i := 3) (ls' := [(3, .int q7.1), (0, .ref 41), (1, .int v1), (2, .int v2)]) dX11_of_24 rfl (Nat.le_of_ble_eq_true rfl) rfl ?_
      refine z_iload_n (pc := 25) (i := 2) (j := 3) dX11_of_25 rfl rfl ?_
      refine z_iconst (pc := 26) dX11_of_26 ki_2 ?_
      refine z_icmp_ge (pc := 27) (tgt := 45) dX11_of_27 (by decide) (fun hc => ?_) (fun hc => ?_)
      · rw [if_pos hc] at hf
        refine z_aload_n (pc := 45) (i := 0) (j := 1) dX11_of_45 rfl rfl ?_
        obtain ⟨q8, hq8, hf⟩ := Option.bind_eq_some_iff.mp hf
        refine z_oVv (pc := 46) (as := []) (rest := []) dX11_of_46 lm_RX11_227 mf_X11_see mi_X11_see mv_X11_see rc_41 rfl rfl (Nat.le_of_ble_eq_true rfl) (c_X11_see e (by omega) q7.2 hq8) ?_
        refine z_iload_n (pc := 49) (i := 3) (j := 0) dX11_of_49 rfl rfl ?_
        refine z_if_ge (pc := 50) (tgt := 58) dX11_of_50 (by decide) (fun hc => ?_) (fun hc => ?_)
        · rw [if_pos hc] at hf
          refine z_aload_n (pc := 58) (i := 0) (j := 1) dX11_of_58 rfl rfl ?_
          refine z_iload_n (pc := 59) (i := 3) (j := 0) dX11_of_59 rfl rfl ?_
          obtain ⟨q9, hq9, hf⟩ := Option.bind_eq_some_iff.mp hf
          refine z_oVi (pc := 60) (as := [.int q7.1]) (rest := []) dX11_of_60 lm_RX11_221 mf_X11_isLawfulAt mi_X11_isLawfulAt mv_X11_isLawfulAt rc_41 rfl rfl (Nat.le_of_ble_eq_true rfl) (c_X11_isLawfulAt e (by omega) q7.1 q8.2 hq9) ?_
          refine z_if_eq (pc := 63) (tgt := 70) dX11_of_63 (by decide) (fun hc => ?_) (fun hc => ?_)
          · rw [if_pos hc] at hf
            refine z_iconst (pc := 70) dX11_of_70 ki_0 ?_
            obtain rfl := Option.some.inj hf
            rw [h0 _ hK]
            exact z_iret dX11_of_71 rfl rfl
          · rw [if_neg hc] at hf
            refine z_iconst (pc := 66) dX11_of_66 ki_1 ?_
            refine z_goto (pc := 67) (tgt := 71) dX11_of_67 (by decide) ?_
            obtain rfl := Option.some.inj hf
            rw [h0 _ hK]
            exact z_iret dX11_of_71 rfl rfl
        · rw [if_neg hc] at hf
          refine z_bipush (pc := 53) dX11_of_53 kb_n2 ?_
          refine z_goto (pc := 55) (tgt := 71) dX11_of_55 (by decide) ?_
          obtain rfl := Option.some.inj hf
          rw [h0 _ hK]
          exact z_iret dX11_of_71 rfl rfl
      · rw [if_neg hc] at hf
        refine z_iload_n (pc := 30) (i := 2) (j := 3) dX11_of_30 rfl rfl ?_
        refine z_if_ne (pc := 31) (tgt := 43) dX11_of_31 (by decide) (fun hc => ?_) (fun hc => ?_)
        · rw [if_neg hc] at hf
          refine z_iload_n (pc := 43) (i := 3) (j := 0) dX11_of_43 rfl rfl ?_
          obtain rfl := Option.some.inj hf
          rw [h0 _ hK]
          exact z_iret dX11_of_44 rfl rfl
        · rw [if_pos hc] at hf
          refine z_aload_n (pc := 34) (i := 0) (j := 1) dX11_of_34 rfl rfl ?_
          refine z_ogetR (pc := 35) dX11_of_35 lf_RX11_7 sh_41 rfl rfl rfl ?_
          refine z_iload_n (pc := 38) (i := 1) (j := 2) dX11_of_38 rfl rfl ?_
          obtain ⟨w10, hw10, hf⟩ := Option.bind_eq_some_iff.mp hf
          refine z_oiald (pc := 39) dX11_of_39 hw10 ?_
          refine z_goto (pc := 40) (tgt := 44) dX11_of_40 (by decide) ?_
          obtain rfl := Option.some.inj hf
          rw [h0 _ hK]
          exact z_iret dX11_of_44 rfl rfl
    · rw [if_pos hc] at hf
      refine z_iconst (pc := 17) dX11_of_17 ki_n1 ?_
      obtain rfl := Option.some.inj hf
      rw [h0 _ hK]
      exact z_iret dX11_of_18 rfl rfl
set_option maxHeartbeats 4000000 in
set_option maxRecDepth 100000 in
theorem c_X11_of (d : Nat) (hd : 6 ≤ d) (v1 : Int32) (v2 : Int32) (m : ej_M) {q : (Int32 × ej_M)} (hf : f_X11_of v1 v2 m = some q) : ej_Ct yX11_of cX11_of 4 (some .int) d [.ref 41, .int v1, .int v2] (ej_sh, m) ((some (Value.int q.1), (ej_sh, q.2)) : Option Value × ej_H) := by
  obtain ⟨e, rfl⟩ : ∃ e, d = e + 1 := ⟨d - 1, by omega⟩
  exact z_met (by decide +kernel) (Nat.le_of_ble_eq_true rfl) (b_X11_of e (by omega) v1 v2 m (K := fun z => ((some (Value.int q.1), (ej_sh, q.2)) : Option Value × ej_H) = (some (Value.int z.1), (ej_sh, z.2))) hf rfl (fun _ h => h))
