def f_X1_undoLatest  (m : ej_M) : Option (Int32 × ej_M) :=
  if (m.1 11 4) = 0 then
    some ((-5), m)
  else
    (oj_pf m 11 4 ((m.1 11 4) - 1)).bind fun m1 =>
    (f_X10_at 12 (m1.1 11 4) m1).bind fun q2 =>
    (f_X10_at 13 (q2.2.1 11 4) q2.2).bind fun q3 =>
    (f_X1_become q2.1 q3.1 q3.2).bind fun q4 =>
    some ((q4.2.1 11 4), q4.2)
set_option maxHeartbeats 4000000 in
set_option maxRecDepth 100000 in
theorem b_X1_undoLatest (e : Nat) (hd : 2 ≤ e)  (m : ej_M) {x : (Int32 × ej_M)} {res : Option Value × ej_H} {K : (Int32 × ej_M) → Prop} (hf : f_X1_undoLatest  m = some x) (hK : K x) (h0 : ∀ q : (Int32 × ej_M), K q → res = (some (Value.int q.1), (ej_sh, q.2))) : ej_Z cX1_undoLatest 1 (some .int) RX1 "undoLatest" (e + 1) 0 [(0, .ref 11)] [] (ej_sh, m) res := by
  unfold f_X1_undoLatest at hf
  refine z_aload_n (pc := 0) (i := 0) (j := 0) dX1_undoLatest_0 rfl rfl ?_
  refine z_ogetI (pc := 1) dX1_undoLatest_1 lf_RX1_35 sh_11 rfl rfl ?_
  refine z_if_ne (pc := 4) (tgt := 10) dX1_undoLatest_4 (by decide) (fun hc => ?_) (fun hc => ?_)
  · rw [if_neg hc] at hf
    refine z_aload_n (pc := 10) (i := 0) (j := 0) dX1_undoLatest_10 rfl rfl ?_
    refine z_dup (pc := 11) dX1_undoLatest_11 rfl ?_
    refine z_ogetI (pc := 12) dX1_undoLatest_12 lf_RX1_35 sh_11 rfl rfl ?_
    refine z_iconst (pc := 15) dX1_undoLatest_15 ki_1 ?_
    refine z_isub (pc := 16) dX1_undoLatest_16 ?_
    obtain ⟨m1, hm1, hf⟩ := Option.bind_eq_some_iff.mp hf
    refine z_oputI (pc := 17) dX1_undoLatest_17 lf_RX1_35 sh_11 rfl hm1 ?_
    refine z_aload_n (pc := 20) (i := 0) (j := 0) dX1_undoLatest_20 rfl rfl ?_
    refine z_aload_n (pc := 21) (i := 0) (j := 0) dX1_undoLatest_21 rfl rfl ?_
    refine z_ogetR (pc := 22) dX1_undoLatest_22 lf_RX1_11 sh_11 rfl rfl rfl ?_
    refine z_aload_n (pc := 25) (i := 0) (j := 0) dX1_undoLatest_25 rfl rfl ?_
    refine z_ogetI (pc := 26) dX1_undoLatest_26 lf_RX1_35 sh_11 rfl rfl ?_
    obtain ⟨q2, hq2, hf⟩ := Option.bind_eq_some_iff.mp hf
    refine z_oSi (pc := 29) (as := [.ref 12, .int (m1.1 11 4)]) (rest := [.ref 11]) dX1_undoLatest_29 lm_RX1_58 mf_X10_at ms_X10_at rfl rfl (Nat.le_of_ble_eq_true rfl) (c_X10_at e (by omega) 12 (m1.1 11 4) m1 hq2) ?_
    refine z_aload_n (pc := 32) (i := 0) (j := 0) dX1_undoLatest_32 rfl rfl ?_
    refine z_ogetR (pc := 33) dX1_undoLatest_33 lf_RX1_15 sh_11 rfl rfl rfl ?_
    refine z_aload_n (pc := 36) (i := 0) (j := 0) dX1_undoLatest_36 rfl rfl ?_
    refine z_ogetI (pc := 37) dX1_undoLatest_37 lf_RX1_35 sh_11 rfl rfl ?_
    obtain ⟨q3, hq3, hf⟩ := Option.bind_eq_some_iff.mp hf
    refine z_oSi (pc := 40) (as := [.ref 13, .int (q2.2.1 11 4)]) (rest := [.int q2.1, .ref 11]) dX1_undoLatest_40 lm_RX1_58 mf_X10_at ms_X10_at rfl rfl (Nat.le_of_ble_eq_true rfl) (c_X10_at e (by omega) 13 (q2.2.1 11 4) q2.2 hq3) ?_
    obtain ⟨q4, hq4, hf⟩ := Option.bind_eq_some_iff.mp hf
    refine z_oVv (pc := 43) (as := [.int q2.1, .int q3.1]) (rest := []) dX1_undoLatest_43 lm_RX1_48 mf_X1_become mi_X1_become mv_X1_become rc_11 rfl rfl (Nat.le_of_ble_eq_true rfl) (c_X1_become e (by omega) q2.1 q3.1 q3.2 hq4) ?_
    refine z_aload_n (pc := 46) (i := 0) (j := 0) dX1_undoLatest_46 rfl rfl ?_
    refine z_ogetI (pc := 47) dX1_undoLatest_47 lf_RX1_35 sh_11 rfl rfl ?_
    obtain rfl := Option.some.inj hf
    rw [h0 _ hK]
    exact z_iret dX1_undoLatest_50 rfl rfl
  · rw [if_pos hc] at hf
    refine z_bipush (pc := 7) dX1_undoLatest_7 kb_n5 ?_
    obtain rfl := Option.some.inj hf
    rw [h0 _ hK]
    exact z_iret dX1_undoLatest_9 rfl rfl
set_option maxHeartbeats 4000000 in
set_option maxRecDepth 100000 in
theorem c_X1_undoLatest (d : Nat) (hd : 3 ≤ d)  (m : ej_M) {q : (Int32 × ej_M)} (hf : f_X1_undoLatest  m = some q) : ej_Ct yX1_undoLatest cX1_undoLatest 1 (some .int) d [.ref 11] (ej_sh, m) ((some (Value.int q.1), (ej_sh, q.2)) : Option Value × ej_H) := by
  obtain ⟨e, rfl⟩ : ∃ e, d = e + 1 := ⟨d - 1, by omega⟩
  exact z_met (by decide +kernel) (Nat.le_of_ble_eq_true rfl) (b_X1_undoLatest e (by omega)  m (K := fun z => ((some (Value.int q.1), (ej_sh, q.2)) : Option Value × ej_H) = (some (Value.int z.1), (ej_sh, z.2))) hf rfl (fun _ h => h))
def f_X10_undo  (m : ej_M) : Option (Int32 × ej_M) :=
  (f_X1_undoLatest m).bind fun q1 =>
  some (q1.1, q1.2)
set_option maxHeartbeats 4000000 in
set_option maxRecDepth 100000 in
theorem b_X10_undo (e : Nat) (hd : 3 ≤ e)  (m : ej_M) {x : (Int32 × ej_M)} {res : Option Value × ej_H} {K : (Int32 × ej_M) → Prop} (hf : f_X10_undo  m = some x) (hK : K x) (h0 : ∀ q : (Int32 × ej_M), K q → res = (some (Value.int q.1), (ej_sh, q.2))) : ej_Z cX10_undo 1 (some .int) RX10 "undo" (e + 1) 0 [(0, .ref 0)] [] (ej_sh, m) res := by
  unfold f_X10_undo at hf
  refine z_aload_n (pc := 0) (i := 0) (j := 0) dX10_undo_0 rfl rfl ?_
  refine z_ogetR (pc := 1) dX10_undo_1 lf_RX10_30 sh_0 rfl rfl rfl ?_
  obtain ⟨q1, hq1, hf⟩ := Option.bind_eq_some_iff.mp hf
  refine z_oVi (pc := 4) (as := []) (rest := []) dX10_undo_4 lm_RX10_250 mf_X1_undoLatest mi_X1_undoLatest mv_X1_undoLatest rc_11 rfl rfl (Nat.le_of_ble_eq_true rfl) (c_X1_undoLatest e (by omega) m hq1) ?_
  obtain rfl := Option.some.inj hf
  rw [h0 _ hK]
  exact z_iret dX10_undo_7 rfl rfl
set_option maxHeartbeats 4000000 in
set_option maxRecDepth 100000 in
theorem c_X10_undo (d : Nat) (hd : 4 ≤ d)  (m : ej_M) {q : (Int32 × ej_M)} (hf : f_X10_undo  m = some q) : ej_Ct yX10_undo cX10_undo 1 (some .int) d [.ref 0] (ej_sh, m) ((some (Value.int q.1), (ej_sh, q.2)) : Option Value × ej_H) := by
  obtain ⟨e, rfl⟩ : ∃ e, d = e + 1 := ⟨d - 1, by omega⟩
  exact z_met (by decide +kernel) (Nat.le_of_ble_eq_true rfl) (b_X10_undo e (by omega)  m (K := fun z => ((some (Value.int q.1), (ej_sh, q.2)) : Option Value × ej_H) = (some (Value.int z.1), (ej_sh, z.2))) hf rfl (fun _ h => h))
def f_X11_undo  (m : ej_M) : Option (Int32 × ej_M) :=
  if (m.1 41 8) = 0 then
    some ((-5), m)
  else
    (oj_pf m 41 8 ((m.1 41 8) - 1)).bind fun m1 =>
    (oj_pf m1 41 9 ((m1.1 41 9) + 1)).bind fun m2 =>
    (oj_ld 0 m2 44 (m2.1 41 8)).bind fun w3 =>
    (oj_ld 0 m2 45 (m2.1 41 8)).bind fun w4 =>
    (oj_ld 0 m2 46 (m2.1 41 8)).bind fun w5 =>
    (f_X11_lays w3 w4 w5 m2).bind fun q6 =>
    some ((q6.2.1 41 8), q6.2)
set_option maxHeartbeats 4000000 in
set_option maxRecDepth 100000 in
theorem b_X11_undo (e : Nat) (hd : 0 ≤ e)  (m : ej_M) {x : (Int32 × ej_M)} {res : Option Value × ej_H} {K : (Int32 × ej_M) → Prop} (hf : f_X11_undo  m = some x) (hK : K x) (h0 : ∀ q : (Int32 × ej_M), K q → res = (some (Value.int q.1), (ej_sh, q.2))) : ej_Z cX11_undo 1 (some .int) RX11 "undo" (e + 1) 0 [(0, .ref 41)] [] (ej_sh, m) res := by
  unfold f_X11_undo at hf
  refine z_aload_n (pc := 0) (i := 0) (j := 0) dX11_undo_0 rfl rfl ?_
  refine z_ogetI (pc := 1) dX11_undo_1 lf_RX11_129 sh_41 rfl rfl ?_
  refine z_if_ne (pc := 4) (tgt := 10) dX11_undo_4 (by decide) (fun hc => ?_) (fun hc => ?_)
  · rw [if_neg hc] at hf
    refine z_aload_n (pc := 10) (i := 0) (j := 0) dX11_undo_10 rfl rfl ?_
    refine z_dup (pc := 11) dX11_undo_11 rfl ?_
    refine z_ogetI (pc := 12) dX11_undo_12 lf_RX11_129 sh_41 rfl rfl ?_
    refine z_iconst (pc := 15) dX11_undo_15 ki_1 ?_
    refine z_isub (pc := 16) dX11_undo_16 ?_
    obtain ⟨m1, hm1, hf⟩ := Option.bind_eq_some_iff.mp hf
    refine z_oputI (pc := 17) dX11_undo_17 lf_RX11_129 sh_41 rfl hm1 ?_
    refine z_aload_n (pc := 20) (i := 0) (j := 0) dX11_undo_20 rfl rfl ?_
    refine z_dup (pc := 21) dX11_undo_21 rfl ?_
    refine z_ogetI (pc := 22) dX11_undo_22 lf_RX11_126 sh_41 rfl rfl ?_
    refine z_iconst (pc := 25) dX11_undo_25 ki_1 ?_
    refine z_iadd (pc := 26) dX11_undo_26 ?_
    obtain ⟨m2, hm2, hf⟩ := Option.bind_eq_some_iff.mp hf
    refine z_oputI (pc := 27) dX11_undo_27 lf_RX11_126 sh_41 rfl hm2 ?_
    refine z_aload_n (pc := 30) (i := 0) (j := 0) dX11_undo_30 rfl rfl ?_
    refine z_aload_n (pc := 31) (i := 0) (j := 0) dX11_undo_31 rfl rfl ?_
    refine z_ogetR (pc := 32) dX11_undo_32 lf_RX11_16 sh_41 rfl rfl rfl ?_
    refine z_aload_n (pc := 35) (i := 0) (j := 0) dX11_undo_35 rfl rfl ?_
    refine z_ogetI (pc := 36) dX11_undo_36 lf_RX11_129 sh_41 rfl rfl ?_
    obtain ⟨w3, hw3, hf⟩ := Option.bind_eq_some_iff.mp hf
    refine z_oiald (pc := 39) dX11_undo_39 hw3 ?_
    refine z_aload_n (pc := 40) (i := 0) (j := 0) dX11_undo_40 rfl rfl ?_
    refine z_ogetR (pc := 41) dX11_undo_41 lf_RX11_19 sh_41 rfl rfl rfl ?_
    refine z_aload_n (pc := 44) (i := 0) (j := 0) dX11_undo_44 rfl rfl ?_
    refine z_ogetI (pc := 45) dX11_undo_45 lf_RX11_129 sh_41 rfl rfl ?_
    obtain ⟨w4, hw4, hf⟩ := Option.bind_eq_some_iff.mp hf
    refine z_oiald (pc := 48) dX11_undo_48 hw4 ?_
    refine z_aload_n (pc := 49) (i := 0) (j := 0) dX11_undo_49 rfl rfl ?_
    refine z_ogetR (pc := 50) dX11_undo_50 lf_RX11_22 sh_41 rfl rfl rfl ?_
    refine z_aload_n (pc := 53) (i := 0) (j := 0) dX11_undo_53 rfl rfl ?_
    refine z_ogetI (pc := 54) dX11_undo_54 lf_RX11_129 sh_41 rfl rfl ?_
    obtain ⟨w5, hw5, hf⟩ := Option.bind_eq_some_iff.mp hf
    refine z_oiald (pc := 57) dX11_undo_57 hw5 ?_
    obtain ⟨q6, hq6, hf⟩ := Option.bind_eq_some_iff.mp hf
    refine z_oVv (pc := 58) (as := [.int w3, .int w4, .int w5]) (rest := []) dX11_undo_58 lm_RX11_132 mf_X11_lays mi_X11_lays mv_X11_lays rc_41 rfl rfl (Nat.le_of_ble_eq_true rfl) (c_X11_lays e (by omega) w3 w4 w5 m2 hq6) ?_
    refine z_aload_n (pc := 61) (i := 0) (j := 0) dX11_undo_61 rfl rfl ?_
    refine z_ogetI (pc := 62) dX11_undo_62 lf_RX11_129 sh_41 rfl rfl ?_
    obtain rfl := Option.some.inj hf
    rw [h0 _ hK]
    exact z_iret dX11_undo_65 rfl rfl
  · rw [if_pos hc] at hf
    refine z_bipush (pc := 7) dX11_undo_7 kb_n5 ?_
    obtain rfl := Option.some.inj hf
    rw [h0 _ hK]
    exact z_iret dX11_undo_9 rfl rfl
set_option maxHeartbeats 4000000 in
set_option maxRecDepth 100000 in
theorem c_X11_undo (d : Nat) (hd : 1 ≤ d)  (m : ej_M) {q : (Int32 × ej_M)} (hf : f_X11_undo  m = some q) : ej_Ct yX11_undo cX11_undo 1 (some .int) d [.ref 41] (ej_sh, m) ((some (Value.int q.1), (ej_sh, q.2)) : Option Value × ej_H) := by
  obtain ⟨e, rfl⟩ : ∃ e, d = e + 1 := ⟨d - 1, by omega⟩
  exact z_met (by decide +kernel) (Nat.le_of_ble_eq_true rfl) (b_X11_undo e (by omega)  m (K := fun z => ((some (Value.int q.1), (ej_sh, q.2)) : Option Value × ej_H) = (some (Value.int z.1), (ej_sh, z.2))) hf rfl (fun _ h => h))
def f_X1_redoNext  (m : ej_M) : Option (Int32 × ej_M) :=
  if (m.1 11 4) = (m.1 11 5) then
    some ((-5), m)
  else
    (f_X10_at 12 (m.1 11 4) m).bind fun q1 =>
    (f_X10_at 14 (q1.2.1 11 4) q1.2).bind fun q2 =>
    (f_X1_become q1.1 q2.1 q2.2).bind fun q3 =>
    (oj_pf q3.2 11 4 ((q3.2.1 11 4) + 1)).bind fun m4 =>
    some (((m4.1 11 5) - (m4.1 11 4)), m4)
set_option maxHeartbeats 4000000 in
set_option maxRecDepth 100000 in
theorem b_X1_redoNext (e : Nat) (hd : 2 ≤ e)  (m : ej_M) {x : (Int32 × ej_M)} {res : Option Value × ej_H} {K : (Int32 × ej_M) → Prop} (hf : f_X1_redoNext  m = some x) (hK : K x) (h0 : ∀ q : (Int32 × ej_M), K q → res = (some (Value.int q.1), (ej_sh, q.2))) : ej_Z cX1_redoNext 1 (some .int) RX1 "redoNext" (e + 1) 0 [(0, .ref 11)] [] (ej_sh, m) res := by
  unfold f_X1_redoNext at hf
  refine z_aload_n (pc := 0) (i := 0) (j := 0) dX1_redoNext_0 rfl rfl ?_
  refine z_ogetI (pc := 1) dX1_redoNext_1 lf_RX1_35 sh_11 rfl rfl ?_
  refine z_aload_n (pc := 4) (i := 0) (j := 0) dX1_redoNext_4 rfl rfl ?_
  refine z_ogetI (pc := 5) dX1_redoNext_5 lf_RX1_45 sh_11 rfl rfl ?_
  refine z_icmp_ne (pc := 8) (tgt := 14) dX1_redoNext_8 (by decide) (fun hc => ?_) (fun hc => ?_)
  · rw [if_neg hc] at hf
    refine z_aload_n (pc := 14) (i := 0) (j := 0) dX1_redoNext_14 rfl rfl ?_
    refine z_aload_n (pc := 15) (i := 0) (j := 0) dX1_redoNext_15 rfl rfl ?_
    refine z_ogetR (pc := 16) dX1_redoNext_16 lf_RX1_11 sh_11 rfl rfl rfl ?_
    refine z_aload_n (pc := 19) (i := 0) (j := 0) dX1_redoNext_19 rfl rfl ?_
    refine z_ogetI (pc := 20) dX1_redoNext_20 lf_RX1_35 sh_11 rfl rfl ?_
    obtain ⟨q1, hq1, hf⟩ := Option.bind_eq_some_iff.mp hf
    refine z_oSi (pc := 23) (as := [.ref 12, .int (m.1 11 4)]) (rest := [.ref 11]) dX1_redoNext_23 lm_RX1_58 mf_X10_at ms_X10_at rfl rfl (Nat.le_of_ble_eq_true rfl) (c_X10_at e (by omega) 12 (m.1 11 4) m hq1) ?_
    refine z_aload_n (pc := 26) (i := 0) (j := 0) dX1_redoNext_26 rfl rfl ?_
    refine z_ogetR (pc := 27) dX1_redoNext_27 lf_RX1_18 sh_11 rfl rfl rfl ?_
    refine z_aload_n (pc := 30) (i := 0) (j := 0) dX1_redoNext_30 rfl rfl ?_
    refine z_ogetI (pc := 31) dX1_redoNext_31 lf_RX1_35 sh_11 rfl rfl ?_
    obtain ⟨q2, hq2, hf⟩ := Option.bind_eq_some_iff.mp hf
    refine z_oSi (pc := 34) (as := [.ref 14, .int (q1.2.1 11 4)]) (rest := [.int q1.1, .ref 11]) dX1_redoNext_34 lm_RX1_58 mf_X10_at ms_X10_at rfl rfl (Nat.le_of_ble_eq_true rfl) (c_X10_at e (by omega) 14 (q1.2.1 11 4) q1.2 hq2) ?_
    obtain ⟨q3, hq3, hf⟩ := Option.bind_eq_some_iff.mp hf
    refine z_oVv (pc := 37) (as := [.int q1.1, .int q2.1]) (rest := []) dX1_redoNext_37 lm_RX1_48 mf_X1_become mi_X1_become mv_X1_become rc_11 rfl rfl (Nat.le_of_ble_eq_true rfl) (c_X1_become e (by omega) q1.1 q2.1 q2.2 hq3) ?_
    refine z_aload_n (pc := 40) (i := 0) (j := 0) dX1_redoNext_40 rfl rfl ?_
    refine z_dup (pc := 41) dX1_redoNext_41 rfl ?_
    refine z_ogetI (pc := 42) dX1_redoNext_42 lf_RX1_35 sh_11 rfl rfl ?_
    refine z_iconst (pc := 45) dX1_redoNext_45 ki_1 ?_
    refine z_iadd (pc := 46) dX1_redoNext_46 ?_
    obtain ⟨m4, hm4, hf⟩ := Option.bind_eq_some_iff.mp hf
    refine z_oputI (pc := 47) dX1_redoNext_47 lf_RX1_35 sh_11 rfl hm4 ?_
    refine z_aload_n (pc := 50) (i := 0) (j := 0) dX1_redoNext_50 rfl rfl ?_
    refine z_ogetI (pc := 51) dX1_redoNext_51 lf_RX1_45 sh_11 rfl rfl ?_
    refine z_aload_n (pc := 54) (i := 0) (j := 0) dX1_redoNext_54 rfl rfl ?_
    refine z_ogetI (pc := 55) dX1_redoNext_55 lf_RX1_35 sh_11 rfl rfl ?_
    refine z_isub (pc := 58) dX1_redoNext_58 ?_
    obtain rfl := Option.some.inj hf
    rw [h0 _ hK]
    exact z_iret dX1_redoNext_59 rfl rfl
  · rw [if_pos hc] at hf
    refine z_bipush (pc := 11) dX1_redoNext_11 kb_n5 ?_
    obtain rfl := Option.some.inj hf
    rw [h0 _ hK]
    exact z_iret dX1_redoNext_13 rfl rfl
set_option maxHeartbeats 4000000 in
set_option maxRecDepth 100000 in
theorem c_X1_redoNext (d : Nat) (hd : 3 ≤ d)  (m : ej_M) {q : (Int32 × ej_M)} (hf : f_X1_redoNext  m = some q) : ej_Ct yX1_redoNext cX1_redoNext 1 (some .int) d [.ref 11] (ej_sh, m) ((some (Value.int q.1), (ej_sh, q.2)) : Option Value × ej_H) := by
  obtain ⟨e, rfl⟩ : ∃ e, d = e + 1 := ⟨d - 1, by omega⟩
  exact z_met (by decide +kernel) (Nat.le_of_ble_eq_true rfl) (b_X1_redoNext e (by omega)  m (K := fun z => ((some (Value.int q.1), (ej_sh, q.2)) : Option Value × ej_H) = (some (Value.int z.1), (ej_sh, z.2))) hf rfl (fun _ h => h))
def f_X10_redo  (m : ej_M) : Option (Int32 × ej_M) :=
  (f_X1_redoNext m).bind fun q1 =>
  some (q1.1, q1.2)
set_option maxHeartbeats 4000000 in
set_option maxRecDepth 100000 in
theorem b_X10_redo (e : Nat) (hd : 3 ≤ e)  (m : ej_M) {x : (Int32 × ej_M)} {res : Option Value × ej_H} {K : (Int32 × ej_M) → Prop} (hf : f_X10_redo  m = some x) (hK : K x) (h0 : ∀ q : (Int32 × ej_M), K q → res = (some (Value.int q.1), (ej_sh, q.2))) : ej_Z cX10_redo 1 (some .int) RX10 "redo" (e + 1) 0 [(0, .ref 0)] [] (ej_sh, m) res := by
  unfold f_X10_redo at hf
  refine z_aload_n (pc := 0) (i := 0) (j := 0) dX10_redo_0 rfl rfl ?_
  refine z_ogetR (pc := 1) dX10_redo_1 lf_RX10_30 sh_0 rfl rfl rfl ?_
  obtain ⟨q1, hq1, hf⟩ := Option.bind_eq_some_iff.mp hf
  refine z_oVi (pc := 4) (as := []) (rest := []) dX10_redo_4 lm_RX10_253 mf_X1_redoNext mi_X1_redoNext mv_X1_redoNext rc_11 rfl rfl (Nat.le_of_ble_eq_true rfl) (c_X1_redoNext e (by omega) m hq1) ?_
  obtain rfl := Option.some.inj hf
  rw [h0 _ hK]
  exact z_iret dX10_redo_7 rfl rfl
set_option maxHeartbeats 4000000 in
set_option maxRecDepth 100000 in
theorem c_X10_redo (d : Nat) (hd : 4 ≤ d)  (m : ej_M) {q : (Int32 × ej_M)} (hf : f_X10_redo  m = some q) : ej_Ct yX10_redo cX10_redo 1 (some .int) d [.ref 0] (ej_sh, m) ((some (Value.int q.1), (ej_sh, q.2)) : Option Value × ej_H) := by
  obtain ⟨e, rfl⟩ : ∃ e, d = e + 1 := ⟨d - 1, by omega⟩
  exact z_met (by decide +kernel) (Nat.le_of_ble_eq_true rfl) (b_X10_redo e (by omega)  m (K := fun z => ((some (Value.int q.1), (ej_sh, q.2)) : Option Value × ej_H) = (some (Value.int z.1), (ej_sh, z.2))) hf rfl (fun _ h => h))
def f_X11_redo  (m : ej_M) : Option (Int32 × ej_M) :=
  if (m.1 41 9) = 0 then
    some ((-5), m)
  else
    (oj_ld 0 m 44 (m.1 41 8)).bind fun w1 =>
    (oj_ld 0 m 45 (m.1 41 8)).bind fun w2 =>
    (oj_ld 0 m 47 (m.1 41 8)).bind fun w3 =>
    (f_X11_lays w1 w2 w3 m).bind fun q4 =>
    (oj_pf q4.2 41 8 ((q4.2.1 41 8) + 1)).bind fun m5 =>
    (oj_pf m5 41 9 ((m5.1 41 9) - 1)).bind fun m6 =>
    some ((m6.1 41 9), m6)
set_option maxHeartbeats 4000000 in
set_option maxRecDepth 100000 in
theorem b_X11_redo (e : Nat) (hd : 0 ≤ e)  (m : ej_M) {x : (Int32 × ej_M)} {res : Option Value × ej_H} {K : (Int32 × ej_M) → Prop} (hf : f_X11_redo  m = some x) (hK : K x) (h0 : ∀ q : (Int32 × ej_M), K q → res = (some (Value.int q.1), (ej_sh, q.2))) : ej_Z cX11_redo 1 (some .int) RX11 "redo" (e + 1) 0 [(0, .ref 41)] [] (ej_sh, m) res := by
  unfold f_X11_redo at hf
  refine z_aload_n (pc := 0) (i := 0) (j := 0) dX11_redo_0 rfl rfl ?_
  refine z_ogetI (pc := 1) dX11_redo_1 lf_RX11_126 sh_41 rfl rfl ?_
  refine z_if_ne (pc := 4) (tgt := 10) dX11_redo_4 (by decide) (fun hc => ?_) (fun hc => ?_)
  · rw [if_neg hc] at hf
    refine z_aload_n (pc := 10) (i := 0) (j := 0) dX11_redo_10 rfl rfl ?_
    refine z_aload_n (pc := 11) (i := 0) (j := 0) dX11_redo_11 rfl rfl ?_
    refine z_ogetR (pc := 12) dX11_redo_12 lf_RX11_16 sh_41 rfl rfl rfl ?_
    refine z_aload_n (pc := 15) (i := 0) (j := 0) dX11_redo_15 rfl rfl ?_
    refine z_ogetI (pc := 16) dX11_redo_16 lf_RX11_129 sh_41 rfl rfl ?_
    obtain ⟨w1, hw1, hf⟩ := Option.bind_eq_some_iff.mp hf
    refine z_oiald (pc := 19) dX11_redo_19 hw1 ?_
    refine z_aload_n (pc := 20) (i := 0) (j := 0) dX11_redo_20 rfl rfl ?_
    refine z_ogetR (pc := 21) dX11_redo_21 lf_RX11_19 sh_41 rfl rfl rfl ?_
    refine z_aload_n (pc := 24) (i := 0) (j := 0) dX11_redo_24 rfl rfl ?_
    refine z_ogetI (pc := 25) dX11_redo_25 lf_RX11_129 sh_41 rfl rfl ?_
    obtain ⟨w2, hw2, hf⟩ := Option.bind_eq_some_iff.mp hf
    refine z_oiald (pc := 28) dX11_redo_28 hw2 ?_
    refine z_aload_n (pc := 29) (i := 0) (j := 0) dX11_redo_29 rfl rfl ?_
    refine z_ogetR (pc := 30) dX11_redo_30 lf_RX11_25 sh_41 rfl rfl rfl ?_
    refine z_aload_n (pc := 33) (i := 0) (j := 0) dX11_redo_33 rfl rfl ?_
    refine z_ogetI (pc := 34) dX11_redo_34 lf_RX11_129 sh_41 rfl rfl ?_
    obtain ⟨w3, hw3, hf⟩ := Option.bind_eq_some_iff.mp hf
    refine z_oiald (pc := 37) dX11_redo_37 hw3 ?_
    obtain ⟨q4, hq4, hf⟩ := Option.bind_eq_some_iff.mp hf
    refine z_oVv (pc := 38) (as := [.int w1, .int w2, .int w3]) (rest := []) dX11_redo_38 lm_RX11_132 mf_X11_lays mi_X11_lays mv_X11_lays rc_41 rfl rfl (Nat.le_of_ble_eq_true rfl) (c_X11_lays e (by omega) w1 w2 w3 m hq4) ?_
    refine z_aload_n (pc := 41) (i := 0) (j := 0) dX11_redo_41 rfl rfl ?_
    refine z_dup (pc := 42) dX11_redo_42 rfl ?_
    refine z_ogetI (pc := 43) dX11_redo_43 lf_RX11_129 sh_41 rfl rfl ?_
    refine z_iconst (pc := 46) dX11_redo_46 ki_1 ?_
    refine z_iadd (pc := 47) dX11_redo_47 ?_
    obtain ⟨m5, hm5, hf⟩ := Option.bind_eq_some_iff.mp hf
    refine z_oputI (pc := 48) dX11_redo_48 lf_RX11_129 sh_41 rfl hm5 ?_
    refine z_aload_n (pc := 51) (i := 0) (j := 0) dX11_redo_51 rfl rfl ?_
    refine z_dup (pc := 52) dX11_redo_52 rfl ?_
    refine z_ogetI (pc := 53) dX11_redo_53 lf_RX11_126 sh_41 rfl rfl ?_
    refine z_iconst (pc := 56) dX11_redo_56 ki_1 ?_
    refine z_isub (pc := 57) dX11_redo_57 ?_
    obtain ⟨m6, hm6, hf⟩ := Option.bind_eq_some_iff.mp hf
    refine z_oputI (pc := 58) dX11_redo_58 lf_RX11_126 sh_41 rfl hm6 ?_
    refine z_aload_n (pc := 61) (i := 0) (j := 0) dX11_redo_61 rfl rfl ?_
    refine z_ogetI (pc := 62) dX11_redo_62 lf_RX11_126 sh_41 rfl rfl ?_
    obtain rfl := Option.some.inj hf
    rw [h0 _ hK]
    exact z_iret dX11_redo_65 rfl rfl
  · rw [if_pos hc] at hf
    refine z_bipush (pc := 7) dX11_redo_7 kb_n5 ?_
    obtain rfl := Option.some.inj hf
    rw [h0 _ hK]
    exact z_iret dX11_redo_9 rfl rfl
set_option maxHeartbeats 4000000 in
set_option maxRecDepth 100000 in
theorem c_X11_redo (d : Nat) (hd : 1 ≤ d)  (m : ej_M) {q : (Int32 × ej_M)} (hf : f_X11_redo  m = some q) : ej_Ct yX11_redo cX11_redo 1 (some .int) d [.ref 41] (ej_sh, m) ((some (Value.int q.1), (ej_sh, q.2)) : Option Value × ej_H) := by
  obtain ⟨e, rfl⟩ : ∃ e, d = e + 1 := ⟨d - 1, by omega⟩
  exact z_met (by decide +kernel) (Nat.le_of_ble_eq_true rfl) (b_X11_redo e (by omega)  m (K := fun z => ((some (Value.int q.1), (ej_sh, q.2)) : Option Value × ej_H) = (some (Value.int z.1), (ej_sh, z.2))) hf rfl (fun _ h => h))
def f_X0_add (v1 : Int32) (m : ej_M) : Option (Int32 × ej_M) :=
  if v1 < 0 then
    some ((-1), m)
  else
    if v1 < 8 then
      if (m.1 34 1) < 50 then
        (f_X10_lay 35 (m.1 34 1) v1 m).bind fun q1 =>
        (oj_pf q1.2 34 1 ((q1.2.1 34 1) + 1)).bind fun m2 =>
        some (((m2.1 34 1) - 1), m2)
      else
        some ((-3), m)
    else
      some ((-1), m)
set_option maxHeartbeats 4000000 in
set_option maxRecDepth 100000 in
theorem b_X0_add (e : Nat) (hd : 0 ≤ e) (v1 : Int32) (m : ej_M) {x : (Int32 × ej_M)} {res : Option Value × ej_H} {K : (Int32 × ej_M) → Prop} (hf : f_X0_add v1 m = some x) (hK : K x) (h0 : ∀ q : (Int32 × ej_M), K q → res = (some (Value.int q.1), (ej_sh, q.2))) : ej_Z cX0_add 2 (some .int) RX0 "add" (e + 1) 0 [(0, .ref 34), (1, .int v1)] [] (ej_sh, m) res := by
  unfold f_X0_add at hf
  refine z_iload_n (pc := 0) (i := 1) (j := 1) dX0_add_0 rfl rfl ?_
  refine z_if_lt (pc := 1) (tgt := 10) dX0_add_1 (by decide) (fun hc => ?_) (fun hc => ?_)
  · rw [if_pos hc] at hf
    refine z_iconst (pc := 10) dX0_add_10 ki_n1 ?_
    obtain rfl := Option.some.inj hf
    rw [h0 _ hK]
    exact z_iret dX0_add_11 rfl rfl
  · rw [if_neg hc] at hf
    refine z_iload_n (pc := 4) (i := 1) (j := 1) dX0_add_4 rfl rfl ?_
    refine z_bipush (pc := 5) dX0_add_5 kb_8 ?_
    refine z_icmp_lt (pc := 7) (tgt := 12) dX0_add_7 (by decide) (fun hc => ?_) (fun hc => ?_)
    · rw [if_pos hc] at hf
      refine z_aload_n (pc := 12) (i := 0) (j := 0) dX0_add_12 rfl rfl ?_
      refine z_ogetI (pc := 13) dX0_add_13 lf_RX0_18 sh_34 rfl rfl ?_
      refine z_bipush (pc := 16) dX0_add_16 kb_50 ?_
      refine z_icmp_lt (pc := 18) (tgt := 24) dX0_add_18 (by decide) (fun hc => ?_) (fun hc => ?_)
      · rw [if_pos hc] at hf
        refine z_aload_n (pc := 24) (i := 0) (j := 0) dX0_add_24 rfl rfl ?_
        refine z_ogetR (pc := 25) dX0_add_25 lf_RX0_11 sh_34 rfl rfl rfl ?_
        refine z_aload_n (pc := 28) (i := 0) (j := 0) dX0_add_28 rfl rfl ?_
        refine z_ogetI (pc := 29) dX0_add_29 lf_RX0_18 sh_34 rfl rfl ?_
        refine z_iload_n (pc := 32) (i := 1) (j := 1) dX0_add_32 rfl rfl ?_
        obtain ⟨q1, hq1, hf⟩ := Option.bind_eq_some_iff.mp hf
        refine z_oSv (pc := 33) (as := [.ref 35, .int (m.1 34 1), .int v1]) (rest := []) dX0_add_33 lm_RX0_22 mf_X10_lay ms_X10_lay rfl rfl (Nat.le_of_ble_eq_true rfl) (c_X10_lay e (by omega) 35 (m.1 34 1) v1 m hq1) ?_
        refine z_aload_n (pc := 36) (i := 0) (j := 0) dX0_add_36 rfl rfl ?_
        refine z_dup (pc := 37) dX0_add_37 rfl ?_
        refine z_ogetI (pc := 38) dX0_add_38 lf_RX0_18 sh_34 rfl rfl ?_
        refine z_iconst (pc := 41) dX0_add_41 ki_1 ?_
        refine z_iadd (pc := 42) dX0_add_42 ?_
        obtain ⟨m2, hm2, hf⟩ := Option.bind_eq_some_iff.mp hf
        refine z_oputI (pc := 43) dX0_add_43 lf_RX0_18 sh_34 rfl hm2 ?_
        refine z_aload_n (pc := 46) (i := 0) (j := 0) dX0_add_46 rfl rfl ?_
        refine z_ogetI (pc := 47) dX0_add_47 lf_RX0_18 sh_34 rfl rfl ?_
        refine z_iconst (pc := 50) dX0_add_50 ki_1 ?_
        refine z_isub (pc := 51) dX0_add_51 ?_
        obtain rfl := Option.some.inj hf
        rw [h0 _ hK]
        exact z_iret dX0_add_52 rfl rfl
      · rw [if_neg hc] at hf
        refine z_bipush (pc := 21) dX0_add_21 kb_n3 ?_
        obtain rfl := Option.some.inj hf
        rw [h0 _ hK]
        exact z_iret dX0_add_23 rfl rfl
    · rw [if_neg hc] at hf
      refine z_iconst (pc := 10) dX0_add_10 ki_n1 ?_
      obtain rfl := Option.some.inj hf
      rw [h0 _ hK]
      exact z_iret dX0_add_11 rfl rfl
set_option maxHeartbeats 4000000 in
set_option maxRecDepth 100000 in
theorem c_X0_add (d : Nat) (hd : 1 ≤ d) (v1 : Int32) (m : ej_M) {q : (Int32 × ej_M)} (hf : f_X0_add v1 m = some q) : ej_Ct yX0_add cX0_add 2 (some .int) d [.ref 34, .int v1] (ej_sh, m) ((some (Value.int q.1), (ej_sh, q.2)) : Option Value × ej_H) := by
  obtain ⟨e, rfl⟩ : ∃ e, d = e + 1 := ⟨d - 1, by omega⟩
  exact z_met (by decide +kernel) (Nat.le_of_ble_eq_true rfl) (b_X0_add e (by omega) v1 m (K := fun z => ((some (Value.int q.1), (ej_sh, q.2)) : Option Value × ej_H) = (some (Value.int z.1), (ej_sh, z.2))) hf rfl (fun _ h => h))
def f_X10_body (v1 : Int32) (m : ej_M) : Option (Int32 × ej_M) :=
  (f_X0_add v1 m).bind fun q1 =>
  some (q1.1, q1.2)
set_option maxHeartbeats 4000000 in
set_option maxRecDepth 100000 in
theorem b_X10_body (e : Nat) (hd : 1 ≤ e) (v1 : Int32) (m : ej_M) {x : (Int32 × ej_M)} {res : Option Value × ej_H} {K : (Int32 × ej_M) → Prop} (hf : f_X10_body v1 m = some x) (hK : K x) (h0 : ∀ q : (Int32 × ej_M), K q → res = (some (Value.int q.1), (ej_sh, q.2))) : ej_Z cX10_body 2 (some .int) RX10 "body" (e + 1) 0 [(0, .ref 0), (1, .int v1)] [] (ej_sh, m) res := by
  unfold f_X10_body at hf
  refine z_aload_n (pc := 0) (i := 0) (j := 0) dX10_body_0 rfl rfl ?_
  refine z_ogetR (pc := 1) dX10_body_1 lf_RX10_72 sh_0 rfl rfl rfl ?_
  refine z_iload_n (pc := 4) (i := 1) (j := 1) dX10_body_4 rfl rfl ?_
  obtain ⟨q1, hq1, hf⟩ := Option.bind_eq_some_iff.mp hf
  refine z_oVi (pc := 5) (as := [.int v1]) (rest := []) dX10_body_5 lm_RX10_256 mf_X0_add mi_X0_add mv_X0_add rc_34 rfl rfl (Nat.le_of_ble_eq_true rfl) (c_X0_add e (by omega) v1 m hq1) ?_
  obtain rfl := Option.some.inj hf
  rw [h0 _ hK]
  exact z_iret dX10_body_8 rfl rfl
set_option maxHeartbeats 4000000 in
set_option maxRecDepth 100000 in
theorem c_X10_body (d : Nat) (hd : 2 ≤ d) (v1 : Int32) (m : ej_M) {q : (Int32 × ej_M)} (hf : f_X10_body v1 m = some q) : ej_Ct yX10_body cX10_body 2 (some .int) d [.ref 0, .int v1] (ej_sh, m) ((some (Value.int q.1), (ej_sh, q.2)) : Option Value × ej_H) := by
  obtain ⟨e, rfl⟩ : ∃ e, d = e + 1 := ⟨d - 1, by omega⟩
  exact z_met (by decide +kernel) (Nat.le_of_ble_eq_true rfl) (b_X10_body e (by omega) v1 m (K := fun z => ((some (Value.int q.1), (ej_sh, q.2)) : Option Value × ej_H) = (some (Value.int z.1), (ej_sh, z.2))) hf rfl (fun _ h => h))
def f_X11_body (v1 : Int32) (m : ej_M) : Option (Int32 × ej_M) :=
  (f_X11_in v1 0 7 m).bind fun q1 =>
  if q1.1 = 0 then
    some ((-1), q1.2)
  else
    if (q1.2.1 41 43) = 50 then
      some ((-3), q1.2)
    else
      (oj_st 0 q1.2 64 (q1.2.1 41 43) v1).bind fun m2 =>
      (oj_pf m2 41 43 ((m2.1 41 43) + 1)).bind fun m3 =>
      some (((m3.1 41 43) - 1), m3)
set_option maxHeartbeats 4000000 in
set_option maxRecDepth 100000 in
theorem b_X11_body (e : Nat) (hd : 0 ≤ e) (v1 : Int32) (m : ej_M) {x : (Int32 × ej_M)} {res : Option Value × ej_H} {K : (Int32 × ej_M) → Prop} (hf : f_X11_body v1 m = some x) (hK : K x) (h0 : ∀ q : (Int32 × ej_M), K q → res = (some (Value.int q.1), (ej_sh, q.2))) : ej_Z cX11_body 2 (some .int) RX11 "body" (e + 1) 0 [(0, .ref 41), (1, .int v1)] [] (ej_sh, m) res := by
  unfold f_X11_body at hf
  refine z_iload_n (pc := 0) (i := 1) (j := 1) dX11_body_0 rfl rfl ?_
  refine z_iconst (pc := 1) dX11_body_1 ki_0 ?_
  refine z_bipush (pc := 2) dX11_body_2 kb_7 ?_
  obtain ⟨q1, hq1, hf⟩ := Option.bind_eq_some_iff.mp hf
  refine z_oSi (pc := 4) (as := [.int v1, .int 0, .int 7]) (rest := []) dX11_body_4 lm_RX11_104 mf_X11_in ms_X11_in rfl rfl (Nat.le_of_ble_eq_true rfl) (c_X11_in e (by omega) v1 0 7 m hq1) ?_
  refine z_if_ne (pc := 7) (tgt := 12) dX11_body_7 (by decide) (fun hc => ?_) (fun hc => ?_)
  · rw [if_neg hc] at hf
    refine z_aload_n (pc := 12) (i := 0) (j := 0) dX11_body_12 rfl rfl ?_
    refine z_ogetI (pc := 13) dX11_body_13 lf_RX11_338 sh_41 rfl rfl ?_
    refine z_bipush (pc := 16) dX11_body_16 kb_50 ?_
    refine z_icmp_ne (pc := 18) (tgt := 24) dX11_body_18 (by decide) (fun hc => ?_) (fun hc => ?_)
    · rw [if_neg hc] at hf
      refine z_aload_n (pc := 24) (i := 0) (j := 0) dX11_body_24 rfl rfl ?_
      refine z_ogetR (pc := 25) dX11_body_25 lf_RX11_78 sh_41 rfl rfl rfl ?_
      refine z_aload_n (pc := 28) (i := 0) (j := 0) dX11_body_28 rfl rfl ?_
      refine z_ogetI (pc := 29) dX11_body_29 lf_RX11_338 sh_41 rfl rfl ?_
      refine z_iload_n (pc := 32) (i := 1) (j := 1) dX11_body_32 rfl rfl ?_
      obtain ⟨m2, hm2, hf⟩ := Option.bind_eq_some_iff.mp hf
      refine z_oiast (pc := 33) dX11_body_33 hm2 ?_
      refine z_aload_n (pc := 34) (i := 0) (j := 0) dX11_body_34 rfl rfl ?_
      refine z_dup (pc := 35) dX11_body_35 rfl ?_
      refine z_ogetI (pc := 36) dX11_body_36 lf_RX11_338 sh_41 rfl rfl ?_
      refine z_iconst (pc := 39) dX11_body_39 ki_1 ?_
      refine z_iadd (pc := 40) dX11_body_40 ?_
      obtain ⟨m3, hm3, hf⟩ := Option.bind_eq_some_iff.mp hf
      refine z_oputI (pc := 41) dX11_body_41 lf_RX11_338 sh_41 rfl hm3 ?_
      refine z_aload_n (pc := 44) (i := 0) (j := 0) dX11_body_44 rfl rfl ?_
      refine z_ogetI (pc := 45) dX11_body_45 lf_RX11_338 sh_41 rfl rfl ?_
      refine z_iconst (pc := 48) dX11_body_48 ki_1 ?_
      refine z_isub (pc := 49) dX11_body_49 ?_
      obtain rfl := Option.some.inj hf
      rw [h0 _ hK]
      exact z_iret dX11_body_50 rfl rfl
    · rw [if_pos hc] at hf
      refine z_bipush (pc := 21) dX11_body_21 kb_n3 ?_
      obtain rfl := Option.some.inj hf
      rw [h0 _ hK]
      exact z_iret dX11_body_23 rfl rfl
  · rw [if_pos hc] at hf
    refine z_iconst (pc := 10) dX11_body_10 ki_n1 ?_
    obtain rfl := Option.some.inj hf
    rw [h0 _ hK]
    exact z_iret dX11_body_11 rfl rfl
set_option maxHeartbeats 4000000 in
set_option maxRecDepth 100000 in
theorem c_X11_body (d : Nat) (hd : 1 ≤ d) (v1 : Int32) (m : ej_M) {q : (Int32 × ej_M)} (hf : f_X11_body v1 m = some q) : ej_Ct yX11_body cX11_body 2 (some .int) d [.ref 41, .int v1] (ej_sh, m) ((some (Value.int q.1), (ej_sh, q.2)) : Option Value × ej_H) := by
  obtain ⟨e, rfl⟩ : ∃ e, d = e + 1 := ⟨d - 1, by omega⟩
  exact z_met (by decide +kernel) (Nat.le_of_ble_eq_true rfl) (b_X11_body e (by omega) v1 m (K := fun z => ((some (Value.int q.1), (ej_sh, q.2)) : Option Value × ej_H) = (some (Value.int z.1), (ej_sh, z.2))) hf rfl (fun _ h => h))
def f_X0_has (v1 : Int32) (m : ej_M) : Option (Int32 × ej_M) :=
  if v1 < 0 then
    some (0, m)
  else
    if (m.1 34 1) ≤ v1 then
      some (0, m)
    else
      some (1, m)
set_option maxHeartbeats 4000000 in
set_option maxRecDepth 100000 in
theorem b_X0_has (d : Nat) (v1 : Int32) (m : ej_M) {x : (Int32 × ej_M)} {res : Option Value × ej_H} {K : (Int32 × ej_M) → Prop} (hf : f_X0_has v1 m = some x) (hK : K x) (h0 : ∀ q : (Int32 × ej_M), K q → res = (some (Value.int q.1), (ej_sh, q.2))) : ej_Z cX0_has 2 (some .boolean) RX0 "has" d 0 [(0, .ref 34), (1, .int v1)] [] (ej_sh, m) res := by
  unfold f_X0_has at hf
  refine z_iload_n (pc := 0) (i := 1) (j := 1) dX0_has_0 rfl rfl ?_
  refine z_if_lt (pc := 1) (tgt := 16) dX0_has_1 (by decide) (fun hc => ?_) (fun hc => ?_)
  · rw [if_pos hc] at hf
    refine z_iconst (pc := 16) dX0_has_16 ki_0 ?_
    obtain rfl := Option.some.inj hf
    rw [h0 _ hK]
    exact z_iret dX0_has_17 rfl rfl
  · rw [if_neg hc] at hf
    refine z_iload_n (pc := 4) (i := 1) (j := 1) dX0_has_4 rfl rfl ?_
    refine z_aload_n (pc := 5) (i := 0) (j := 0) dX0_has_5 rfl rfl ?_
    refine z_ogetI (pc := 6) dX0_has_6 lf_RX0_18 sh_34 rfl rfl ?_
    refine z_icmp_ge (pc := 9) (tgt := 16) dX0_has_9 (by decide) (fun hc => ?_) (fun hc => ?_)
    · rw [if_pos hc] at hf
      refine z_iconst (pc := 16) dX0_has_16 ki_0 ?_
      obtain rfl := Option.some.inj hf
      rw [h0 _ hK]
      exact z_iret dX0_has_17 rfl rfl
    · rw [if_neg hc] at hf
      refine z_iconst (pc := 12) dX0_has_12 ki_1 ?_
      refine z_goto (pc := 13) (tgt := 17) dX0_has_13 (by decide) ?_
      obtain rfl := Option.some.inj hf
      rw [h0 _ hK]
      exact z_iret dX0_has_17 rfl rfl
set_option maxHeartbeats 4000000 in
set_option maxRecDepth 100000 in
theorem c_X0_has (d : Nat) (hd : 0 ≤ d) (v1 : Int32) (m : ej_M) {q : (Int32 × ej_M)} (hf : f_X0_has v1 m = some q) : ej_Ct yX0_has cX0_has 2 (some .boolean) d [.ref 34, .int v1] (ej_sh, m) ((some (Value.int q.1), (ej_sh, q.2)) : Option Value × ej_H) := by
  exact z_met (by decide +kernel) (Nat.le_of_ble_eq_true rfl) (b_X0_has d v1 m (K := fun z => ((some (Value.int q.1), (ej_sh, q.2)) : Option Value × ej_H) = (some (Value.int z.1), (ej_sh, z.2))) hf rfl (fun _ h => h))
def f_X0_kindOf (v1 : Int32) (m : ej_M) : Option (Int32 × ej_M) :=
  (f_X0_has v1 m).bind fun q1 =>
  if q1.1 = 0 then
    some ((-1), q1.2)
  else
    (f_X10_at 35 v1 q1.2).bind fun q2 =>
    some (q2.1, q2.2)
set_option maxHeartbeats 4000000 in
set_option maxRecDepth 100000 in
theorem b_X0_kindOf (e : Nat) (hd : 0 ≤ e) (v1 : Int32) (m : ej_M) {x : (Int32 × ej_M)} {res : Option Value × ej_H} {K : (Int32 × ej_M) → Prop} (hf : f_X0_kindOf v1 m = some x) (hK : K x) (h0 : ∀ q : (Int32 × ej_M), K q → res = (some (Value.int q.1), (ej_sh, q.2))) : ej_Z cX0_kindOf 2 (some .int) RX0 "kindOf" (e + 1) 0 [(0, .ref 34), (1, .int v1)] [] (ej_sh, m) res := by
  unfold f_X0_kindOf at hf
  refine z_aload_n (pc := 0) (i := 0) (j := 0) dX0_kindOf_0 rfl rfl ?_
  refine z_iload_n (pc := 1) (i := 1) (j := 1) dX0_kindOf_1 rfl rfl ?_
  obtain ⟨q1, hq1, hf⟩ := Option.bind_eq_some_iff.mp hf
  refine z_oVi (pc := 2) (as := [.int v1]) (rest := []) dX0_kindOf_2 lm_RX0_26 mf_X0_has mi_X0_has mv_X0_has rc_34 rfl rfl (Nat.le_of_ble_eq_true rfl) (c_X0_has e (by omega) v1 m hq1) ?_
  refine z_if_eq (pc := 5) (tgt := 19) dX0_kindOf_5 (by decide) (fun hc => ?_) (fun hc => ?_)
  · rw [if_pos hc] at hf
    refine z_iconst (pc := 19) dX0_kindOf_19 ki_n1 ?_
    obtain rfl := Option.some.inj hf
    rw [h0 _ hK]
    exact z_iret dX0_kindOf_20 rfl rfl
  · rw [if_neg hc] at hf
    refine z_aload_n (pc := 8) (i := 0) (j := 0) dX0_kindOf_8 rfl rfl ?_
    refine z_ogetR (pc := 9) dX0_kindOf_9 lf_RX0_11 sh_34 rfl rfl rfl ?_
    refine z_iload_n (pc := 12) (i := 1) (j := 1) dX0_kindOf_12 rfl rfl ?_
    obtain ⟨q2, hq2, hf⟩ := Option.bind_eq_some_iff.mp hf
    refine z_oSi (pc := 13) (as := [.ref 35, .int v1]) (rest := []) dX0_kindOf_13 lm_RX0_30 mf_X10_at ms_X10_at rfl rfl (Nat.le_of_ble_eq_true rfl) (c_X10_at e (by omega) 35 v1 q1.2 hq2) ?_
    refine z_goto (pc := 16) (tgt := 20) dX0_kindOf_16 (by decide) ?_
    obtain rfl := Option.some.inj hf
    rw [h0 _ hK]
    exact z_iret dX0_kindOf_20 rfl rfl
set_option maxHeartbeats 4000000 in
set_option maxRecDepth 100000 in
theorem c_X0_kindOf (d : Nat) (hd : 1 ≤ d) (v1 : Int32) (m : ej_M) {q : (Int32 × ej_M)} (hf : f_X0_kindOf v1 m = some q) : ej_Ct yX0_kindOf cX0_kindOf 2 (some .int) d [.ref 34, .int v1] (ej_sh, m) ((some (Value.int q.1), (ej_sh, q.2)) : Option Value × ej_H) := by
  obtain ⟨e, rfl⟩ : ∃ e, d = e + 1 := ⟨d - 1, by omega⟩
  exact z_met (by decide +kernel) (Nat.le_of_ble_eq_true rfl) (b_X0_kindOf e (by omega) v1 m (K := fun z => ((some (Value.int q.1), (ej_sh, q.2)) : Option Value × ej_H) = (some (Value.int z.1), (ej_sh, z.2))) hf rfl (fun _ h => h))
def f_X0_numberOf_L5b (v2 : Int32) (v3 : Int32) (v4 : Int32) (m : ej_M) : Option ((Int32 × Int32 × ej_M) ⊕ (Int32 × ej_M)) :=
  if 8 ≤ v4 then
    some (Sum.inr (0, m))
  else
    if v3 = (-1) then
      some (Sum.inr (0, m))
    else
      (f_X10_at 1001 ((v3 * 4) + v2) m).bind fun q1 =>
      if q1.1 = 0 then
        (f_X10_at 1000 v3 q1.2).bind fun q2 =>
        some (Sum.inl (q2.1, (v4 + 1), q2.2))
      else
        some (Sum.inr (q1.1, q1.2))
set_option maxHeartbeats 4000000 in
set_option maxRecDepth 100000 in
theorem b_X0_numberOf_L5b (e : Nat) (hd : 0 ≤ e) (v2 : Int32) (v3 : Int32) (v4 : Int32) (m : ej_M) {x : ((Int32 × Int32 × ej_M) ⊕ (Int32 × ej_M))} {res : Option Value × ej_H} {K : ((Int32 × Int32 × ej_M) ⊕ (Int32 × ej_M)) → Prop} (hf : f_X0_numberOf_L5b v2 v3 v4 m = some x) (hK : K x) (h1 : ∀ q : (Int32 × Int32 × ej_M), K (Sum.inl q) → ej_Z cX0_numberOf 6 (some .int) RX0 "numberOf" (e + 1) 5 [(2, .int v2), (3, .int q.1), (4, .int q.2.1)] [] (ej_sh, q.2.2) res) (h0 : ∀ q : (Int32 × ej_M), K (Sum.inr q) → res = (some (Value.int q.1), (ej_sh, q.2))) : ej_Z cX0_numberOf 6 (some .int) RX0 "numberOf" (e + 1) 5 [(2, .int v2), (3, .int v3), (4, .int v4)] [] (ej_sh, m) res := by
  unfold f_X0_numberOf_L5b at hf
  refine z_iload (pc := 5) (i := 4) (j := 2) dX0_numberOf_5 rfl ?_
  refine z_bipush (pc := 7) dX0_numberOf_7 kb_8 ?_
  refine z_icmp_ge (pc := 9) (tgt := 52) dX0_numberOf_9 (by decide) (fun hc => ?_) (fun hc => ?_)
  · rw [if_pos hc] at hf
    refine z_iconst (pc := 52) dX0_numberOf_52 ki_0 ?_
    obtain rfl := Option.some.inj hf
    rw [h0 _ hK]
    exact z_iret dX0_numberOf_53 rfl rfl
  · rw [if_neg hc] at hf
    refine z_iload_n (pc := 12) (i := 3) (j := 1) dX0_numberOf_12 rfl rfl ?_
    refine z_iconst (pc := 13) dX0_numberOf_13 ki_n1 ?_
    refine z_icmp_eq (pc := 14) (tgt := 52) dX0_numberOf_14 (by decide) (fun hc => ?_) (fun hc => ?_)
    · rw [if_pos hc] at hf
      refine z_iconst (pc := 52) dX0_numberOf_52 ki_0 ?_
      obtain rfl := Option.some.inj hf
      rw [h0 _ hK]
      exact z_iret dX0_numberOf_53 rfl rfl
    · rw [if_neg hc] at hf
      refine z_gets (pc := 17) (a := 1001) dX0_numberOf_17 (by decide) ls_RX0_55 ?_
      refine z_iload_n (pc := 20) (i := 3) (j := 1) dX0_numberOf_20 rfl rfl ?_
      refine z_iconst (pc := 21) dX0_numberOf_21 ki_4 ?_
      refine z_imul (pc := 22) dX0_numberOf_22 ?_
      refine z_iload_n (pc := 23) (i := 2) (j := 0) dX0_numberOf_23 rfl rfl ?_
      refine z_iadd (pc := 24) dX0_numberOf_24 ?_
      obtain ⟨q1, hq1, hf⟩ := Option.bind_eq_some_iff.mp hf
      refine z_oSi (pc := 25) (as := [.ref 1001, .int ((v3 * 4) + v2)]) (rest := []) dX0_numberOf_25 lm_RX0_30 mf_X10_at ms_X10_at rfl rfl (Nat.le_of_ble_eq_true rfl) (c_X10_at e (by omega) 1001 ((v3 * 4) + v2) m hq1) ?_
      refine z_istore (pc := 28) (i := 5) (ls' := [(5, .int q1.1), (2, .int v2), (3, .int v3), (4, .int v4)]) dX0_numberOf_28 (Nat.le_of_ble_eq_true rfl) rfl ?_
      refine z_iload (pc := 30) (i := 5) (j := 0) dX0_numberOf_30 rfl ?_
      refine z_if_eq (pc := 32) (tgt := 38) dX0_numberOf_32 (by decide) (fun hc => ?_) (fun hc => ?_)
      · rw [if_pos hc] at hf
        refine z_gets (pc := 38) (a := 1000) dX0_numberOf_38 (by decide) ls_RX0_34 ?_
        refine z_iload_n (pc := 41) (i := 3) (j := 2) dX0_numberOf_41 rfl rfl ?_
        obtain ⟨q2, hq2, hf⟩ := Option.bind_eq_some_iff.mp hf
        refine z_oSi (pc := 42) (as := [.ref 1000, .int v3]) (rest := []) dX0_numberOf_42 lm_RX0_30 mf_X10_at ms_X10_at rfl rfl (Nat.le_of_ble_eq_true rfl) (c_X10_at e (by omega) 1000 v3 q1.2 hq2) ?_
        refine z_istore_n (pc := 45) (i := 3) (ls' := [(3, .int q2.1), (5, .int q1.1), (2, .int v2), (4, .int v4)]) dX0_numberOf_45 rfl (Nat.le_of_ble_eq_true rfl) rfl ?_
        refine z_iinc (pc := 46) (j := 3) (ls' := [(4, .int (v4 + 1)), (3, .int q2.1), (5, .int q1.1), (2, .int v2)]) dX0_numberOf_46 rfl ki_1 (Nat.le_of_ble_eq_true rfl) rfl ?_
        refine z_goto (pc := 49) (tgt := 5) dX0_numberOf_49 (by decide) ?_
        obtain rfl := Option.some.inj hf
        exact z_pick (ls' := [(2, .int v2), (3, .int q2.1), (4, .int (v4 + 1))]) [3, 1, 0] rfl (h1 (q2.1, (v4 + 1), q2.2) hK)
      · rw [if_neg hc] at hf
        refine z_iload (pc := 35) (i := 5) (j := 0) dX0_numberOf_35 rfl ?_
        obtain rfl := Option.some.inj hf
        rw [h0 _ hK]
        exact z_iret dX0_numberOf_37 rfl rfl
def f_X0_numberOf_L5 (v2 : Int32) (v3 : Int32) (v4 : Int32) (m : ej_M) : Option (Int32 × ej_M) := oj_loop (fun q : (Int32 × Int32 × ej_M) => f_X0_numberOf_L5b v2 q.1 q.2.1 q.2.2) oj_FU (v3, v4, m)
set_option maxHeartbeats 4000000 in
set_option maxRecDepth 100000 in
theorem b_X0_numberOf_L5 (e : Nat) (hd : 0 ≤ e) (v2 : Int32) (v3 : Int32) (v4 : Int32) (m : ej_M) {x : (Int32 × ej_M)} {res : Option Value × ej_H} {K : (Int32 × ej_M) → Prop} (hf : f_X0_numberOf_L5 v2 v3 v4 m = some x) (hK : K x) (h0 : ∀ q : (Int32 × ej_M), K q → res = (some (Value.int q.1), (ej_sh, q.2))) : ej_Z cX0_numberOf 6 (some .int) RX0 "numberOf" (e + 1) 5 [(2, .int v2), (3, .int v3), (4, .int v4)] [] (ej_sh, m) res :=
  oj_loop_Z (body := fun q : (Int32 × Int32 × ej_M) => f_X0_numberOf_L5b v2 q.1 q.2.1 q.2.2) (P := fun q : (Int32 × Int32 × ej_M) => ej_Z cX0_numberOf 6 (some .int) RX0 "numberOf" (e + 1) 5 [(2, .int v2), (3, .int q.1), (4, .int q.2.1)] [] (ej_sh, q.2.2) res) (K := K) (fun s x hb hl hr => b_X0_numberOf_L5b e hd v2  s.1 s.2.1 s.2.2 (K := fun x => (∀ s' : (Int32 × Int32 × ej_M), x = Sum.inl s' → ej_Z cX0_numberOf 6 (some .int) RX0 "numberOf" (e + 1) 5 [(2, .int v2), (3, .int s'.1), (4, .int s'.2.1)] [] (ej_sh, s'.2.2) res) ∧ ∀ e, x = Sum.inr e → K e) hb ⟨hl, hr⟩ (fun q hq => hq.1 q rfl) (fun q hq => h0 q (hq.2 _ rfl))) oj_FU (v3, v4, m) x hf hK
def f_X0_numberOf (v1 : Int32) (v2 : Int32) (m : ej_M) : Option (Int32 × ej_M) :=
  f_X0_numberOf_L5 v2 v1 0 m
set_option maxHeartbeats 4000000 in
set_option maxRecDepth 100000 in
theorem b_X0_numberOf (e : Nat) (hd : 0 ≤ e) (v1 : Int32) (v2 : Int32) (m : ej_M) {x : (Int32 × ej_M)} {res : Option Value × ej_H} {K : (Int32 × ej_M) → Prop} (hf : f_X0_numberOf v1 v2 m = some x) (hK : K x) (h0 : ∀ q : (Int32 × ej_M), K q → res = (some (Value.int q.1), (ej_sh, q.2))) : ej_Z cX0_numberOf 6 (some .int) RX0 "numberOf" (e + 1) 0 [(0, .ref 34), (1, .int v1), (2, .int v2)] [] (ej_sh, m) res := by
  unfold f_X0_numberOf at hf
  refine z_iload_n (pc := 0) (i := 1) (j := 1) dX0_numberOf_0 rfl rfl ?_
  refine z_istore_n (pc := 1) (i := 3) (ls' := [(3, .int v1), (0, .ref 34), (1, .int v1), (2, .int v2)]) dX0_numberOf_1 rfl (Nat.le_of_ble_eq_true rfl) rfl ?_
  refine z_iconst (pc := 2) dX0_numberOf_2 ki_0 ?_
  refine z_istore (pc := 3) (i := 4) (ls' := [(4, .int 0), (3, .int v1), (0, .ref 34), (1, .int v1), (2, .int v2)]) dX0_numberOf_3 (Nat.le_of_ble_eq_true rfl) rfl ?_
  exact z_pick [4, 1, 0] rfl (b_X0_numberOf_L5 e hd v2 v1 0 m (K := K) hf hK  h0)
set_option maxHeartbeats 4000000 in
set_option maxRecDepth 100000 in
theorem c_X0_numberOf (d : Nat) (hd : 1 ≤ d) (v1 : Int32) (v2 : Int32) (m : ej_M) {q : (Int32 × ej_M)} (hf : f_X0_numberOf v1 v2 m = some q) : ej_Ct yX0_numberOf cX0_numberOf 6 (some .int) d [.ref 34, .int v1, .int v2] (ej_sh, m) ((some (Value.int q.1), (ej_sh, q.2)) : Option Value × ej_H) := by
  obtain ⟨e, rfl⟩ : ∃ e, d = e + 1 := ⟨d - 1, by omega⟩
  exact z_met (by decide +kernel) (Nat.le_of_ble_eq_true rfl) (b_X0_numberOf e (by omega) v1 v2 m (K := fun z => ((some (Value.int q.1), (ej_sh, q.2)) : Option Value × ej_H) = (some (Value.int z.1), (ej_sh, z.2))) hf rfl (fun _ h => h))
def Q_X0_own (Rf : (Int32 → Int32 → Int32 → ej_M → Option (Int32 × ej_M)) × (Int32 → Int32 → Int32 → Int32 → ej_M → Option (Int32 × ej_M)) × (Int32 → Int32 → Int32 → ej_M → Option (Int32 × ej_M))) (e : Nat) : Prop := (∀ (v1 : Int32) (v2 : Int32) (v3 : Int32) (m : ej_M) (q : (Int32 × ej_M)), Rf.1 v1 v2 v3 m = some q → ej_Ct yX0_own cX0_own 4 (some .int) e [.ref 34, .int v1, .int v2, .int v3] (ej_sh, m) (some (Value.int q.1), (ej_sh, q.2))) ∧ (∀ (v1 : Int32) (v2 : Int32) (v3 : Int32) (v4 : Int32) (m : ej_M) (q : (Int32 × ej_M)), Rf.2.1 v1 v2 v3 v4 m = some q → ej_Ct yX0_run cX0_run 6 (some .int) e [.ref 34, .int v1, .int v2, .int v3, .int v4] (ej_sh, m) (some (Value.int q.1), (ej_sh, q.2))) ∧ (∀ (v1 : Int32) (v2 : Int32) (v3 : Int32) (m : ej_M) (q : (Int32 × ej_M)), Rf.2.2 v1 v2 v3 m = some q → ej_Ct yX0_runUnder cX0_runUnder 6 (some .int) e [.ref 34, .int v1, .int v2, .int v3] (ej_sh, m) (some (Value.int q.1), (ej_sh, q.2)))
def f_X0_own_e (Rf : ((Int32 → Int32 → Int32 → ej_M → Option (Int32 × ej_M)) × (Int32 → Int32 → Int32 → Int32 → ej_M → Option (Int32 × ej_M)) × (Int32 → Int32 → Int32 → ej_M → Option (Int32 × ej_M)))) (v1 : Int32) (v2 : Int32) (v3 : Int32) (m : ej_M) : Option (Int32 × ej_M) :=
  (f_X0_kindOf (m.1 34 4) m).bind fun q1 =>
  (Rf.2.1 q1.1 v1 v2 (v3 + 1) q1.2).bind fun q2 =>
  some (q2.1, q2.2)
set_option maxHeartbeats 4000000 in
set_option maxRecDepth 100000 in
theorem b_X0_own_e (e : Nat) (hd : 1 ≤ e) (Rf : ((Int32 → Int32 → Int32 → ej_M → Option (Int32 × ej_M)) × (Int32 → Int32 → Int32 → Int32 → ej_M → Option (Int32 × ej_M)) × (Int32 → Int32 → Int32 → ej_M → Option (Int32 × ej_M)))) (hR : Q_X0_own Rf e) (v1 : Int32) (v2 : Int32) (v3 : Int32) (m : ej_M) {x : (Int32 × ej_M)} {res : Option Value × ej_H} {K : (Int32 × ej_M) → Prop} (hf : f_X0_own_e Rf v1 v2 v3 m = some x) (hK : K x) (h0 : ∀ q : (Int32 × ej_M), K q → res = (some (Value.int q.1), (ej_sh, q.2))) : ej_Z cX0_own 4 (some .int) RX0 "own" (e + 1) 0 [(0, .ref 34), (1, .int v1), (2, .int v2), (3, .int v3)] [] (ej_sh, m) res := by
  unfold f_X0_own_e at hf
  refine z_aload_n (pc := 0) (i := 0) (j := 0) dX0_own_0 rfl rfl ?_
  refine z_aload_n (pc := 1) (i := 0) (j := 0) dX0_own_1 rfl rfl ?_
  refine z_aload_n (pc := 2) (i := 0) (j := 0) dX0_own_2 rfl rfl ?_
  refine z_ogetI (pc := 3) dX0_own_3 lf_RX0_40 sh_34 rfl rfl ?_
  obtain ⟨q1, hq1, hf⟩ := Option.bind_eq_some_iff.mp hf
  refine z_oVi (pc := 6) (as := [.int (m.1 34 4)]) (rest := [.ref 34]) dX0_own_6 lm_RX0_47 mf_X0_kindOf mi_X0_kindOf mv_X0_kindOf rc_34 rfl rfl (Nat.le_of_ble_eq_true rfl) (c_X0_kindOf e (by omega) (m.1 34 4) m hq1) ?_
  refine z_iload_n (pc := 9) (i := 1) (j := 1) dX0_own_9 rfl rfl ?_
  refine z_iload_n (pc := 10) (i := 2) (j := 2) dX0_own_10 rfl rfl ?_
  refine z_iload_n (pc := 11) (i := 3) (j := 3) dX0_own_11 rfl rfl ?_
  refine z_iconst (pc := 12) dX0_own_12 ki_1 ?_
  refine z_iadd (pc := 13) dX0_own_13 ?_
  obtain ⟨q2, hq2, hf⟩ := Option.bind_eq_some_iff.mp hf
  refine z_oVi (pc := 14) (as := [.int q1.1, .int v1, .int v2, .int (v3 + 1)]) (rest := []) dX0_own_14 lm_RX0_51 mf_X0_run mi_X0_run mv_X0_run rc_34 rfl rfl (Nat.le_of_ble_eq_true rfl) (hR.2.1 _ _ _ _ _ _ hq2) ?_
  obtain rfl := Option.some.inj hf
  rw [h0 _ hK]
  exact z_iret dX0_own_17 rfl rfl
def f_X0_run_e (Rf : ((Int32 → Int32 → Int32 → ej_M → Option (Int32 × ej_M)) × (Int32 → Int32 → Int32 → Int32 → ej_M → Option (Int32 × ej_M)) × (Int32 → Int32 → Int32 → ej_M → Option (Int32 × ej_M)))) (v1 : Int32) (v2 : Int32) (v3 : Int32) (v4 : Int32) (m : ej_M) : Option (Int32 × ej_M) :=
  (f_X0_numberOf v1 v2 m).bind fun q1 =>
  if q1.1 = 0 then
    some (0, q1.2)
  else
    if v4 ≤ 40 then
      (f_X10_lay 36 (q1.2.1 34 3) q1.1 q1.2).bind fun q2 =>
      (oj_pf q2.2 34 3 ((q2.2.1 34 3) + 1)).bind fun m3 =>
      if q1.1 = 1 then
        some ((v3 + (m3.1 34 4)), m3)
      else
        if q1.1 = 2 then
          (Rf.1 1 v3 v4 m3).bind fun q4 =>
          (Rf.1 2 1 v4 q4.2).bind fun q5 =>
          some ((q4.1 - q5.1), q5.2)
        else
          if q1.1 = 10 then
            (Rf.1 0 v3 v4 m3).bind fun q6 =>
            some ((q6.1 * 2), q6.2)
          else
            if q1.1 = 11 then
              some ((v3 ^^^ (m3.1 34 4)), m3)
            else
              (Rf.2.2 q1.1 v3 v4 m3).bind fun q7 =>
              some (q7.1, q7.2)
    else
      some (0, q1.2)
set_option maxHeartbeats 4000000 in
set_option maxRecDepth 100000 in
theorem b_X0_run_e (e : Nat) (hd : 1 ≤ e) (Rf : ((Int32 → Int32 → Int32 → ej_M → Option (Int32 × ej_M)) × (Int32 → Int32 → Int32 → Int32 → ej_M → Option (Int32 × ej_M)) × (Int32 → Int32 → Int32 → ej_M → Option (Int32 × ej_M)))) (hR : Q_X0_own Rf e) (v1 : Int32) (v2 : Int32) (v3 : Int32) (v4 : Int32) (m : ej_M) {x : (Int32 × ej_M)} {res : Option Value × ej_H} {K : (Int32 × ej_M) → Prop} (hf : f_X0_run_e Rf v1 v2 v3 v4 m = some x) (hK : K x) (h0 : ∀ q : (Int32 × ej_M), K q → res = (some (Value.int q.1), (ej_sh, q.2))) : ej_Z cX0_run 6 (some .int) RX0 "run" (e + 1) 0 [(0, .ref 34), (1, .int v1), (2, .int v2), (3, .int v3), (4, .int v4)] [] (ej_sh, m) res := by
  unfold f_X0_run_e at hf
  refine z_aload_n (pc := 0) (i := 0) (j := 0) dX0_run_0 rfl rfl ?_
  refine z_iload_n (pc := 1) (i := 1) (j := 1) dX0_run_1 rfl rfl ?_
  refine z_iload_n (pc := 2) (i := 2) (j := 2) dX0_run_2 rfl rfl ?_
  obtain ⟨q1, hq1, hf⟩ := Option.bind_eq_some_iff.mp hf
  refine z_oVi (pc := 3) (as := [.int v1, .int v2]) (rest := []) dX0_run_3 lm_RX0_58 mf_X0_numberOf mi_X0_numberOf mv_X0_numberOf rc_34 rfl rfl (Nat.le_of_ble_eq_true rfl) (c_X0_numberOf e (by omega) v1 v2 m hq1) ?_
  refine z_istore (pc := 6) (i := 5) (ls' := [(5, .int q1.1), (0, .ref 34), (1, .int v1), (2, .int v2), (3, .int v3), (4, .int v4)]) dX0_run_6 (Nat.le_of_ble_eq_true rfl) rfl ?_
  refine z_iload (pc := 8) (i := 5) (j := 0) dX0_run_8 rfl ?_
  refine z_if_eq (pc := 10) (tgt := 20) dX0_run_10 (by decide) (fun hc => ?_) (fun hc => ?_)
  · rw [if_pos hc] at hf
    refine z_iconst (pc := 20) dX0_run_20 ki_0 ?_
    obtain rfl := Option.some.inj hf
    rw [h0 _ hK]
    exact z_iret dX0_run_21 rfl rfl
  · rw [if_neg hc] at hf
    refine z_iload (pc := 13) (i := 4) (j := 5) dX0_run_13 rfl ?_
    refine z_bipush (pc := 15) dX0_run_15 kb_40 ?_
    refine z_icmp_le (pc := 17) (tgt := 22) dX0_run_17 (by decide) (fun hc => ?_) (fun hc => ?_)
    · rw [if_pos hc] at hf
      refine z_aload_n (pc := 22) (i := 0) (j := 1) dX0_run_22 rfl rfl ?_
      refine z_ogetR (pc := 23) dX0_run_23 lf_RX0_15 sh_34 rfl rfl rfl ?_
      refine z_aload_n (pc := 26) (i := 0) (j := 1) dX0_run_26 rfl rfl ?_
      refine z_ogetI (pc := 27) dX0_run_27 lf_RX0_37 sh_34 rfl rfl ?_
      refine z_iload (pc := 30) (i := 5) (j := 0) dX0_run_30 rfl ?_
      obtain ⟨q2, hq2, hf⟩ := Option.bind_eq_some_iff.mp hf
      refine z_oSv (pc := 32) (as := [.ref 36, .int (q1.2.1 34 3), .int q1.1]) (rest := []) dX0_run_32 lm_RX0_22 mf_X10_lay ms_X10_lay rfl rfl (Nat.le_of_ble_eq_true rfl) (c_X10_lay e (by omega) 36 (q1.2.1 34 3) q1.1 q1.2 hq2) ?_
      refine z_aload_n (pc := 35) (i := 0) (j := 1) dX0_run_35 rfl rfl ?_
      refine z_dup (pc := 36) dX0_run_36 rfl ?_
      refine z_ogetI (pc := 37) dX0_run_37 lf_RX0_37 sh_34 rfl rfl ?_
      refine z_iconst (pc := 40) dX0_run_40 ki_1 ?_
      refine z_iadd (pc := 41) dX0_run_41 ?_
      obtain ⟨m3, hm3, hf⟩ := Option.bind_eq_some_iff.mp hf
      refine z_oputI (pc := 42) dX0_run_42 lf_RX0_37 sh_34 rfl hm3 ?_
      refine z_iload (pc := 45) (i := 5) (j := 0) dX0_run_45 rfl ?_
      by_cases hs1 : q1.1 = 1
      · rw [if_pos hs1] at hf
        refine z_lookup (pc := 47) (off := 41) (tgt := 88) dX0_run_47 (by decide) (by rw [hs1]; decide) (by decide) ?_
        refine z_iload_n (pc := 88) (i := 3) (j := 4) dX0_run_88 rfl rfl ?_
        refine z_aload_n (pc := 89) (i := 0) (j := 1) dX0_run_89 rfl rfl ?_
        refine z_ogetI (pc := 90) dX0_run_90 lf_RX0_40 sh_34 rfl rfl ?_
        refine z_iadd (pc := 93) dX0_run_93 ?_
        obtain rfl := Option.some.inj hf
        rw [h0 _ hK]
        exact z_iret dX0_run_94 rfl rfl
      · rw [if_neg hs1] at hf
        by_cases hs2 : q1.1 = 2
        · rw [if_pos hs2] at hf
          refine z_lookup (pc := 47) (off := 48) (tgt := 95) dX0_run_47 (by decide) (by rw [hs2]; decide) (by decide) ?_
          refine z_aload_n (pc := 95) (i := 0) (j := 1) dX0_run_95 rfl rfl ?_
          refine z_iconst (pc := 96) dX0_run_96 ki_1 ?_
          refine z_iload_n (pc := 97) (i := 3) (j := 4) dX0_run_97 rfl rfl ?_
          refine z_iload (pc := 98) (i := 4) (j := 5) dX0_run_98 rfl ?_
          obtain ⟨q4, hq4, hf⟩ := Option.bind_eq_some_iff.mp hf
          refine z_oVi (pc := 100) (as := [.int 1, .int v3, .int v4]) (rest := []) dX0_run_100 lm_RX0_43 mf_X0_own mi_X0_own mv_X0_own rc_34 rfl rfl (Nat.le_of_ble_eq_true rfl) (hR.1 _ _ _ _ _ hq4) ?_
          refine z_aload_n (pc := 103) (i := 0) (j := 1) dX0_run_103 rfl rfl ?_
          refine z_iconst (pc := 104) dX0_run_104 ki_2 ?_
          refine z_iconst (pc := 105) dX0_run_105 ki_1 ?_
          refine z_iload (pc := 106) (i := 4) (j := 5) dX0_run_106 rfl ?_
          obtain ⟨q5, hq5, hf⟩ := Option.bind_eq_some_iff.mp hf
          refine z_oVi (pc := 108) (as := [.int 2, .int 1, .int v4]) (rest := [.int q4.1]) dX0_run_108 lm_RX0_43 mf_X0_own mi_X0_own mv_X0_own rc_34 rfl rfl (Nat.le_of_ble_eq_true rfl) (hR.1 _ _ _ _ _ hq5) ?_
          refine z_isub (pc := 111) dX0_run_111 ?_
          obtain rfl := Option.some.inj hf
          rw [h0 _ hK]
          exact z_iret dX0_run_112 rfl rfl
        · rw [if_neg hs2] at hf
          by_cases hs10 : q1.1 = 10
          · rw [if_pos hs10] at hf
            refine z_lookup (pc := 47) (off := 66) (tgt := 113) dX0_run_47 (by decide) (by rw [hs10]; decide) (by decide) ?_
            refine z_aload_n (pc := 113) (i := 0) (j := 1) dX0_run_113 rfl rfl ?_
            refine z_iconst (pc := 114) dX0_run_114 ki_0 ?_
            refine z_iload_n (pc := 115) (i := 3) (j := 4) dX0_run_115 rfl rfl ?_
            refine z_iload (pc := 116) (i := 4) (j := 5) dX0_run_116 rfl ?_
            obtain ⟨q6, hq6, hf⟩ := Option.bind_eq_some_iff.mp hf
            refine z_oVi (pc := 118) (as := [.int 0, .int v3, .int v4]) (rest := []) dX0_run_118 lm_RX0_43 mf_X0_own mi_X0_own mv_X0_own rc_34 rfl rfl (Nat.le_of_ble_eq_true rfl) (hR.1 _ _ _ _ _ hq6) ?_
            refine z_iconst (pc := 121) dX0_run_121 ki_2 ?_
            refine z_imul (pc := 122) dX0_run_122 ?_
            obtain rfl := Option.some.inj hf
            rw [h0 _ hK]
            exact z_iret dX0_run_123 rfl rfl
          · rw [if_neg hs10] at hf
            by_cases hs11 : q1.1 = 11
            · rw [if_pos hs11] at hf
              refine z_lookup (pc := 47) (off := 77) (tgt := 124) dX0_run_47 (by decide) (by rw [hs11]; decide) (by decide) ?_
              refine z_iload_n (pc := 124) (i := 3) (j := 4) dX0_run_124 rfl rfl ?_
              refine z_aload_n (pc := 125) (i := 0) (j := 1) dX0_run_125 rfl rfl ?_
              refine z_ogetI (pc := 126) dX0_run_126 lf_RX0_40 sh_34 rfl rfl ?_
              refine z_ixor (pc := 129) dX0_run_129 ?_
              obtain rfl := Option.some.inj hf
              rw [h0 _ hK]
              exact z_iret dX0_run_130 rfl rfl
            · rw [if_neg hs11] at hf
              refine z_lookup (pc := 47) (off := 84) (tgt := 131) dX0_run_47 (by decide) ((lv_osw hs1 (show (1 : Int32).toInt = 1 by decide)).trans ((lv_osw hs2 (show (2 : Int32).toInt = 2 by decide)).trans ((lv_osw hs10 (show (10 : Int32).toInt = 10 by decide)).trans ((lv_osw hs11 (show (11 : Int32).toInt = 11 by decide)).trans (rfl))))) (by decide) ?_
              refine z_aload_n (pc := 131) (i := 0) (j := 1) dX0_run_131 rfl rfl ?_
              refine z_iload (pc := 132) (i := 5) (j := 0) dX0_run_132 rfl ?_
              refine z_iload_n (pc := 134) (i := 3) (j := 4) dX0_run_134 rfl rfl ?_
              refine z_iload (pc := 135) (i := 4) (j := 5) dX0_run_135 rfl ?_
              obtain ⟨q7, hq7, hf⟩ := Option.bind_eq_some_iff.mp hf
              refine z_oVi (pc := 137) (as := [.int q1.1, .int v3, .int v4]) (rest := []) dX0_run_137 lm_RX0_62 mf_X0_runUnder mi_X0_runUnder mv_X0_runUnder rc_34 rfl rfl (Nat.le_of_ble_eq_true rfl) (hR.2.2 _ _ _ _ _ hq7) ?_
              obtain rfl := Option.some.inj hf
              rw [h0 _ hK]
              exact z_iret dX0_run_140 rfl rfl
    · rw [if_neg hc] at hf
      refine z_iconst (pc := 20) dX0_run_20 ki_0 ?_
      obtain rfl := Option.some.inj hf
      rw [h0 _ hK]
      exact z_iret dX0_run_21 rfl rfl
def f_X0_runUnder_e (Rf : ((Int32 → Int32 → Int32 → ej_M → Option (Int32 × ej_M)) × (Int32 → Int32 → Int32 → Int32 → ej_M → Option (Int32 × ej_M)) × (Int32 → Int32 → Int32 → ej_M → Option (Int32 × ej_M)))) (v1 : Int32) (v2 : Int32) (v3 : Int32) (m : ej_M) : Option (Int32 × ej_M) :=
  (oj_dv v1 10).bind fun w1 =>
  (f_X10_at 1000 (w1 - 1) m).bind fun q2 =>
  if v1 = 20 then
    (Rf.2.1 q2.1 0 v2 (v3 + 1) q2.2).bind fun q3 =>
    some ((q3.1 + 3), q3.2)
  else
    if v1 = 30 then
      (Rf.2.1 q2.1 1 v2 (v3 + 1) q2.2).bind fun q4 =>
      some ((-q4.1), q4.2)
    else
      if v1 = 40 then
        (Rf.2.1 q2.1 2 v2 (v3 + 1) q2.2).bind fun q5 =>
        some ((q5.1 * 3), q5.2)
      else
        if v1 = 41 then
          (Rf.2.1 q2.1 1 (v2 + 1) (v3 + 1) q2.2).bind fun q6 =>
          some (q6.1, q6.2)
        else
          if v1 = 50 then
            (Rf.2.1 q2.1 3 v2 (v3 + 1) q2.2).bind fun q7 =>
            some ((q7.1 ^^^ 5), q7.2)
          else
            if v1 = 60 then
              (Rf.2.1 q2.1 2 v2 (v3 + 1) q2.2).bind fun q8 =>
              (Rf.1 0 2 v3 q8.2).bind fun q9 =>
              some ((q8.1 - q9.1), q9.2)
            else
              if v1 = 61 then
                (Rf.2.1 q2.1 3 v2 (v3 + 1) q2.2).bind fun q10 =>
                some ((q10.1 + 1), q10.2)
              else
                if v1 = 70 then
                  (Rf.2.1 q2.1 0 v2 (v3 + 1) q2.2).bind fun q11 =>
                  some ((q11.1 * 2), q11.2)
                else
                  if v1 = 80 then
                    (Rf.2.1 q2.1 1 v2 (v3 + 1) q2.2).bind fun q12 =>
                    (Rf.1 2 2 v3 q12.2).bind fun q13 =>
                    some ((q12.1 + q13.1), q13.2)
                  else
                    if v1 = 81 then
                      (Rf.2.1 q2.1 0 v2 (v3 + 1) q2.2).bind fun q14 =>
                      some ((q14.1 - 1), q14.2)
                    else
                      some (0, q2.2)
set_option maxHeartbeats 4000000 in
set_option maxRecDepth 100000 in
theorem b_X0_runUnder_e (e : Nat) (hd : 1 ≤ e) (Rf : ((Int32 → Int32 → Int32 → ej_M → Option (Int32 × ej_M)) × (Int32 → Int32 → Int32 → Int32 → ej_M → Option (Int32 × ej_M)) × (Int32 → Int32 → Int32 → ej_M → Option (Int32 × ej_M)))) (hR : Q_X0_own Rf e) (v1 : Int32) (v2 : Int32) (v3 : Int32) (m : ej_M) {x : (Int32 × ej_M)} {res : Option Value × ej_H} {K : (Int32 × ej_M) → Prop} (hf : f_X0_runUnder_e Rf v1 v2 v3 m = some x) (hK : K x) (h0 : ∀ q : (Int32 × ej_M), K q → res = (some (Value.int q.1), (ej_sh, q.2))) : ej_Z cX0_runUnder 6 (some .int) RX0 "runUnder" (e + 1) 0 [(0, .ref 34), (1, .int v1), (2, .int v2), (3, .int v3)] [] (ej_sh, m) res := by
  unfold f_X0_runUnder_e at hf
  refine z_gets (pc := 0) (a := 1000) dX0_runUnder_0 (by decide) ls_RX0_34 ?_
  refine z_iload_n (pc := 3) (i := 1) (j := 1) dX0_runUnder_3 rfl rfl ?_
  refine z_bipush (pc := 4) dX0_runUnder_4 kb_10 ?_
  obtain ⟨w1, hw1, hf⟩ := Option.bind_eq_some_iff.mp hf
  refine z_odiv (pc := 6) dX0_runUnder_6 hw1 ?_
  refine z_iconst (pc := 7) dX0_runUnder_7 ki_1 ?_
  refine z_isub (pc := 8) dX0_runUnder_8 ?_
  obtain ⟨q2, hq2, hf⟩ := Option.bind_eq_some_iff.mp hf
  refine z_oSi (pc := 9) (as := [.ref 1000, .int (w1 - 1)]) (rest := []) dX0_runUnder_9 lm_RX0_30 mf_X10_at ms_X10_at rfl rfl (Nat.le_of_ble_eq_true rfl) (c_X10_at e (by omega) 1000 (w1 - 1) m hq2) ?_
  refine z_istore (pc := 12) (i := 4) (ls' := [(4, .int q2.1), (0, .ref 34), (1, .int v1), (2, .int v2), (3, .int v3)]) dX0_runUnder_12 (Nat.le_of_ble_eq_true rfl) rfl ?_
  refine z_iload_n (pc := 14) (i := 3) (j := 4) dX0_runUnder_14 rfl rfl ?_
  refine z_iconst (pc := 15) dX0_runUnder_15 ki_1 ?_
  refine z_iadd (pc := 16) dX0_runUnder_16 ?_
  refine z_istore (pc := 17) (i := 5) (ls' := [(5, .int (v3 + 1)), (4, .int q2.1), (0, .ref 34), (1, .int v1), (2, .int v2), (3, .int v3)]) dX0_runUnder_17 (Nat.le_of_ble_eq_true rfl) rfl ?_
  refine z_iload_n (pc := 19) (i := 1) (j := 3) dX0_runUnder_19 rfl rfl ?_
  by_cases hs20 : v1 = 20
  · rw [if_pos hs20] at hf
    refine z_lookup (pc := 20) (off := 92) (tgt := 112) dX0_runUnder_20 (by decide) (by rw [hs20]; decide) (by decide) ?_
    refine z_aload_n (pc := 112) (i := 0) (j := 2) dX0_runUnder_112 rfl rfl ?_
    refine z_iload (pc := 113) (i := 4) (j := 1) dX0_runUnder_113 rfl ?_
    refine z_iconst (pc := 115) dX0_runUnder_115 ki_0 ?_
    refine z_iload_n (pc := 116) (i := 2) (j := 4) dX0_runUnder_116 rfl rfl ?_
    refine z_iload (pc := 117) (i := 5) (j := 0) dX0_runUnder_117 rfl ?_
    obtain ⟨q3, hq3, hf⟩ := Option.bind_eq_some_iff.mp hf
    refine z_oVi (pc := 119) (as := [.int q2.1, .int 0, .int v2, .int (v3 + 1)]) (rest := []) dX0_runUnder_119 lm_RX0_51 mf_X0_run mi_X0_run mv_X0_run rc_34 rfl rfl (Nat.le_of_ble_eq_true rfl) (hR.2.1 _ _ _ _ _ _ hq3) ?_
    refine z_iconst (pc := 122) dX0_runUnder_122 ki_3 ?_
    refine z_iadd (pc := 123) dX0_runUnder_123 ?_
    obtain rfl := Option.some.inj hf
    rw [h0 _ hK]
    exact z_iret dX0_runUnder_124 rfl rfl
  · rw [if_neg hs20] at hf
    by_cases hs30 : v1 = 30
    · rw [if_pos hs30] at hf
      refine z_lookup (pc := 20) (off := 105) (tgt := 125) dX0_runUnder_20 (by decide) (by rw [hs30]; decide) (by decide) ?_
      refine z_aload_n (pc := 125) (i := 0) (j := 2) dX0_runUnder_125 rfl rfl ?_
      refine z_iload (pc := 126) (i := 4) (j := 1) dX0_runUnder_126 rfl ?_
      refine z_iconst (pc := 128) dX0_runUnder_128 ki_1 ?_
      refine z_iload_n (pc := 129) (i := 2) (j := 4) dX0_runUnder_129 rfl rfl ?_
      refine z_iload (pc := 130) (i := 5) (j := 0) dX0_runUnder_130 rfl ?_
      obtain ⟨q4, hq4, hf⟩ := Option.bind_eq_some_iff.mp hf
      refine z_oVi (pc := 132) (as := [.int q2.1, .int 1, .int v2, .int (v3 + 1)]) (rest := []) dX0_runUnder_132 lm_RX0_51 mf_X0_run mi_X0_run mv_X0_run rc_34 rfl rfl (Nat.le_of_ble_eq_true rfl) (hR.2.1 _ _ _ _ _ _ hq4) ?_
      refine z_ineg (pc := 135) dX0_runUnder_135 ?_
      obtain rfl := Option.some.inj hf
      rw [h0 _ hK]
      exact z_iret dX0_runUnder_136 rfl rfl
    · rw [if_neg hs30] at hf
      by_cases hs40 : v1 = 40
      · rw [if_pos hs40] at hf
        refine z_lookup (pc := 20) (off := 117) (tgt := 137) dX0_runUnder_20 (by decide) (by rw [hs40]; decide) (by decide) ?_
        refine z_aload_n (pc := 137) (i := 0) (j := 2) dX0_runUnder_137 rfl rfl ?_
        refine z_iload (pc := 138) (i := 4) (j := 1) dX0_runUnder_138 rfl ?_
        refine z_iconst (pc := 140) dX0_runUnder_140 ki_2 ?_
        refine z_iload_n (pc := 141) (i := 2) (j := 4) dX0_runUnder_141 rfl rfl ?_
        refine z_iload (pc := 142) (i := 5) (j := 0) dX0_runUnder_142 rfl ?_
        obtain ⟨q5, hq5, hf⟩ := Option.bind_eq_some_iff.mp hf
        refine z_oVi (pc := 144) (as := [.int q2.1, .int 2, .int v2, .int (v3 + 1)]) (rest := []) dX0_runUnder_144 lm_RX0_51 mf_X0_run mi_X0_run mv_X0_run rc_34 rfl rfl (Nat.le_of_ble_eq_true rfl) (hR.2.1 _ _ _ _ _ _ hq5) ?_
        refine z_iconst (pc := 147) dX0_runUnder_147 ki_3 ?_
        refine z_imul (pc := 148) dX0_runUnder_148 ?_
        obtain rfl := Option.some.inj hf
        rw [h0 _ hK]
        exact z_iret dX0_runUnder_149 rfl rfl
      · rw [if_neg hs40] at hf
        by_cases hs41 : v1 = 41
        · rw [if_pos hs41] at hf
          refine z_lookup (pc := 20) (off := 130) (tgt := 150) dX0_runUnder_20 (by decide) (by rw [hs41]; decide) (by decide) ?_
          refine z_aload_n (pc := 150) (i := 0) (j := 2) dX0_runUnder_150 rfl rfl ?_
          refine z_iload (pc := 151) (i := 4) (j := 1) dX0_runUnder_151 rfl ?_
          refine z_iconst (pc := 153) dX0_runUnder_153 ki_1 ?_
          refine z_iload_n (pc := 154) (i := 2) (j := 4) dX0_runUnder_154 rfl rfl ?_
          refine z_iconst (pc := 155) dX0_runUnder_155 ki_1 ?_
          refine z_iadd (pc := 156) dX0_runUnder_156 ?_
          refine z_iload (pc := 157) (i := 5) (j := 0) dX0_runUnder_157 rfl ?_
          obtain ⟨q6, hq6, hf⟩ := Option.bind_eq_some_iff.mp hf
          refine z_oVi (pc := 159) (as := [.int q2.1, .int 1, .int (v2 + 1), .int (v3 + 1)]) (rest := []) dX0_runUnder_159 lm_RX0_51 mf_X0_run mi_X0_run mv_X0_run rc_34 rfl rfl (Nat.le_of_ble_eq_true rfl) (hR.2.1 _ _ _ _ _ _ hq6) ?_
          obtain rfl := Option.some.inj hf
          rw [h0 _ hK]
          exact z_iret dX0_runUnder_162 rfl rfl
        · rw [if_neg hs41] at hf
          by_cases hs50 : v1 = 50
          · rw [if_pos hs50] at hf
            refine z_lookup (pc := 20) (off := 143) (tgt := 163) dX0_runUnder_20 (by decide) (by rw [hs50]; decide) (by decide) ?_
            refine z_aload_n (pc := 163) (i := 0) (j := 2) dX0_runUnder_163 rfl rfl ?_
            refine z_iload (pc := 164) (i := 4) (j := 1) dX0_runUnder_164 rfl ?_
            refine z_iconst (pc := 166) dX0_runUnder_166 ki_3 ?_
            refine z_iload_n (pc := 167) (i := 2) (j := 4) dX0_runUnder_167 rfl rfl ?_
            refine z_iload (pc := 168) (i := 5) (j := 0) dX0_runUnder_168 rfl ?_
            obtain ⟨q7, hq7, hf⟩ := Option.bind_eq_some_iff.mp hf
            refine z_oVi (pc := 170) (as := [.int q2.1, .int 3, .int v2, .int (v3 + 1)]) (rest := []) dX0_runUnder_170 lm_RX0_51 mf_X0_run mi_X0_run mv_X0_run rc_34 rfl rfl (Nat.le_of_ble_eq_true rfl) (hR.2.1 _ _ _ _ _ _ hq7) ?_
            refine z_iconst (pc := 173) dX0_runUnder_173 ki_5 ?_
            refine z_ixor (pc := 174) dX0_runUnder_174 ?_
            obtain rfl := Option.some.inj hf
            rw [h0 _ hK]
            exact z_iret dX0_runUnder_175 rfl rfl
          · rw [if_neg hs50] at hf
            by_cases hs60 : v1 = 60
            · rw [if_pos hs60] at hf
              refine z_lookup (pc := 20) (off := 156) (tgt := 176) dX0_runUnder_20 (by decide) (by rw [hs60]; decide) (by decide) ?_
              refine z_aload_n (pc := 176) (i := 0) (j := 2) dX0_runUnder_176 rfl rfl ?_
              refine z_iload (pc := 177) (i := 4) (j := 1) dX0_runUnder_177 rfl ?_
              refine z_iconst (pc := 179) dX0_runUnder_179 ki_2 ?_
              refine z_iload_n (pc := 180) (i := 2) (j := 4) dX0_runUnder_180 rfl rfl ?_
              refine z_iload (pc := 181) (i := 5) (j := 0) dX0_runUnder_181 rfl ?_
              obtain ⟨q8, hq8, hf⟩ := Option.bind_eq_some_iff.mp hf
              refine z_oVi (pc := 183) (as := [.int q2.1, .int 2, .int v2, .int (v3 + 1)]) (rest := []) dX0_runUnder_183 lm_RX0_51 mf_X0_run mi_X0_run mv_X0_run rc_34 rfl rfl (Nat.le_of_ble_eq_true rfl) (hR.2.1 _ _ _ _ _ _ hq8) ?_
              refine z_aload_n (pc := 186) (i := 0) (j := 2) dX0_runUnder_186 rfl rfl ?_
              refine z_iconst (pc := 187) dX0_runUnder_187 ki_0 ?_
              refine z_iconst (pc := 188) dX0_runUnder_188 ki_2 ?_
              refine z_iload_n (pc := 189) (i := 3) (j := 5) dX0_runUnder_189 rfl rfl ?_
              obtain ⟨q9, hq9, hf⟩ := Option.bind_eq_some_iff.mp hf
              refine z_oVi (pc := 190) (as := [.int 0, .int 2, .int v3]) (rest := [.int q8.1]) dX0_runUnder_190 lm_RX0_43 mf_X0_own mi_X0_own mv_X0_own rc_34 rfl rfl (Nat.le_of_ble_eq_true rfl) (hR.1 _ _ _ _ _ hq9) ?_
              refine z_isub (pc := 193) dX0_runUnder_193 ?_
              obtain rfl := Option.some.inj hf
              rw [h0 _ hK]
              exact z_iret dX0_runUnder_194 rfl rfl
            · rw [if_neg hs60] at hf
              by_cases hs61 : v1 = 61
              · rw [if_pos hs61] at hf
                refine z_lookup (pc := 20) (off := 175) (tgt := 195) dX0_runUnder_20 (by decide) (by rw [hs61]; decide) (by decide) ?_
                refine z_aload_n (pc := 195) (i := 0) (j := 2) dX0_runUnder_195 rfl rfl ?_
                refine z_iload (pc := 196) (i := 4) (j := 1) dX0_runUnder_196 rfl ?_
                refine z_iconst (pc := 198) dX0_runUnder_198 ki_3 ?_
                refine z_iload_n (pc := 199) (i := 2) (j := 4) dX0_runUnder_199 rfl rfl ?_
                refine z_iload (pc := 200) (i := 5) (j := 0) dX0_runUnder_200 rfl ?_
                obtain ⟨q10, hq10, hf⟩ := Option.bind_eq_some_iff.mp hf
                refine z_oVi (pc := 202) (as := [.int q2.1, .int 3, .int v2, .int (v3 + 1)]) (rest := []) dX0_runUnder_202 lm_RX0_51 mf_X0_run mi_X0_run mv_X0_run rc_34 rfl rfl (Nat.le_of_ble_eq_true rfl) (hR.2.1 _ _ _ _ _ _ hq10) ?_
                refine z_iconst (pc := 205) dX0_runUnder_205 ki_1 ?_
                refine z_iadd (pc := 206) dX0_runUnder_206 ?_
                obtain rfl := Option.some.inj hf
                rw [h0 _ hK]
                exact z_iret dX0_runUnder_207 rfl rfl
              · rw [if_neg hs61] at hf
                by_cases hs70 : v1 = 70
                · rw [if_pos hs70] at hf
                  refine z_lookup (pc := 20) (off := 188) (tgt := 208) dX0_runUnder_20 (by decide) (by rw [hs70]; decide) (by decide) ?_
                  refine z_aload_n (pc := 208) (i := 0) (j := 2) dX0_runUnder_208 rfl rfl ?_
                  refine z_iload (pc := 209) (i := 4) (j := 1) dX0_runUnder_209 rfl ?_
                  refine z_iconst (pc := 211) dX0_runUnder_211 ki_0 ?_
                  refine z_iload_n (pc := 212) (i := 2) (j := 4) dX0_runUnder_212 rfl rfl ?_
                  refine z_iload (pc := 213) (i := 5) (j := 0) dX0_runUnder_213 rfl ?_
                  obtain ⟨q11, hq11, hf⟩ := Option.bind_eq_some_iff.mp hf
                  refine z_oVi (pc := 215) (as := [.int q2.1, .int 0, .int v2, .int (v3 + 1)]) (rest := []) dX0_runUnder_215 lm_RX0_51 mf_X0_run mi_X0_run mv_X0_run rc_34 rfl rfl (Nat.le_of_ble_eq_true rfl) (hR.2.1 _ _ _ _ _ _ hq11) ?_
                  refine z_iconst (pc := 218) dX0_runUnder_218 ki_2 ?_
                  refine z_imul (pc := 219) dX0_runUnder_219 ?_
                  obtain rfl := Option.some.inj hf
                  rw [h0 _ hK]
                  exact z_iret dX0_runUnder_220 rfl rfl
                · rw [if_neg hs70] at hf
                  by_cases hs80 : v1 = 80
                  · rw [if_pos hs80] at hf
                    refine z_lookup (pc := 20) (off := 201) (tgt := 221) dX0_runUnder_20 (by decide) (by rw [hs80]; decide) (by decide) ?_
                    refine z_aload_n (pc := 221) (i := 0) (j := 2) dX0_runUnder_221 rfl rfl ?_
                    refine z_iload (pc := 222) (i := 4) (j := 1) dX0_runUnder_222 rfl ?_
                    refine z_iconst (pc := 224) dX0_runUnder_224 ki_1 ?_
                    refine z_iload_n (pc := 225) (i := 2) (j := 4) dX0_runUnder_225 rfl rfl ?_
                    refine z_iload (pc := 226) (i := 5) (j := 0) dX0_runUnder_226 rfl ?_
                    obtain ⟨q12, hq12, hf⟩ := Option.bind_eq_some_iff.mp hf
                    refine z_oVi (pc := 228) (as := [.int q2.1, .int 1, .int v2, .int (v3 + 1)]) (rest := []) dX0_runUnder_228 lm_RX0_51 mf_X0_run mi_X0_run mv_X0_run rc_34 rfl rfl (Nat.le_of_ble_eq_true rfl) (hR.2.1 _ _ _ _ _ _ hq12) ?_
                    refine z_aload_n (pc := 231) (i := 0) (j := 2) dX0_runUnder_231 rfl rfl ?_
                    refine z_iconst (pc := 232) dX0_runUnder_232 ki_2 ?_
                    refine z_iconst (pc := 233) dX0_runUnder_233 ki_2 ?_
                    refine z_iload_n (pc := 234) (i := 3) (j := 5) dX0_runUnder_234 rfl rfl ?_
                    obtain ⟨q13, hq13, hf⟩ := Option.bind_eq_some_iff.mp hf
                    refine z_oVi (pc := 235) (as := [.int 2, .int 2, .int v3]) (rest := [.int q12.1]) dX0_runUnder_235 lm_RX0_43 mf_X0_own mi_X0_own mv_X0_own rc_34 rfl rfl (Nat.le_of_ble_eq_true rfl) (hR.1 _ _ _ _ _ hq13) ?_
                    refine z_iadd (pc := 238) dX0_runUnder_238 ?_
                    obtain rfl := Option.some.inj hf
                    rw [h0 _ hK]
                    exact z_iret dX0_runUnder_239 rfl rfl
                  · rw [if_neg hs80] at hf
                    by_cases hs81 : v1 = 81
                    · rw [if_pos hs81] at hf
                      refine z_lookup (pc := 20) (off := 220) (tgt := 240) dX0_runUnder_20 (by decide) (by rw [hs81]; decide) (by decide) ?_
                      refine z_aload_n (pc := 240) (i := 0) (j := 2) dX0_runUnder_240 rfl rfl ?_
                      refine z_iload (pc := 241) (i := 4) (j := 1) dX0_runUnder_241 rfl ?_
                      refine z_iconst (pc := 243) dX0_runUnder_243 ki_0 ?_
                      refine z_iload_n (pc := 244) (i := 2) (j := 4) dX0_runUnder_244 rfl rfl ?_
                      refine z_iload (pc := 245) (i := 5) (j := 0) dX0_runUnder_245 rfl ?_
                      obtain ⟨q14, hq14, hf⟩ := Option.bind_eq_some_iff.mp hf
                      refine z_oVi (pc := 247) (as := [.int q2.1, .int 0, .int v2, .int (v3 + 1)]) (rest := []) dX0_runUnder_247 lm_RX0_51 mf_X0_run mi_X0_run mv_X0_run rc_34 rfl rfl (Nat.le_of_ble_eq_true rfl) (hR.2.1 _ _ _ _ _ _ hq14) ?_
                      refine z_iconst (pc := 250) dX0_runUnder_250 ki_1 ?_
                      refine z_isub (pc := 251) dX0_runUnder_251 ?_
                      obtain rfl := Option.some.inj hf
                      rw [h0 _ hK]
                      exact z_iret dX0_runUnder_252 rfl rfl
                    · rw [if_neg hs81] at hf
                      refine z_lookup (pc := 20) (off := 233) (tgt := 253) dX0_runUnder_20 (by decide) ((lv_osw hs20 (show (20 : Int32).toInt = 20 by decide)).trans ((lv_osw hs30 (show (30 : Int32).toInt = 30 by decide)).trans ((lv_osw hs40 (show (40 : Int32).toInt = 40 by decide)).trans ((lv_osw hs41 (show (41 : Int32).toInt = 41 by decide)).trans ((lv_osw hs50 (show (50 : Int32).toInt = 50 by decide)).trans ((lv_osw hs60 (show (60 : Int32).toInt = 60 by decide)).trans ((lv_osw hs61 (show (61 : Int32).toInt = 61 by decide)).trans ((lv_osw hs70 (show (70 : Int32).toInt = 70 by decide)).trans ((lv_osw hs80 (show (80 : Int32).toInt = 80 by decide)).trans ((lv_osw hs81 (show (81 : Int32).toInt = 81 by decide)).trans (rfl))))))))))) (by decide) ?_
                      refine z_iconst (pc := 253) dX0_runUnder_253 ki_0 ?_
                      obtain rfl := Option.some.inj hf
                      rw [h0 _ hK]
                      exact z_iret dX0_runUnder_254 rfl rfl
def g_X0_own : Nat → ((Int32 → Int32 → Int32 → ej_M → Option (Int32 × ej_M)) × (Int32 → Int32 → Int32 → Int32 → ej_M → Option (Int32 × ej_M)) × (Int32 → Int32 → Int32 → ej_M → Option (Int32 × ej_M)))
  | 0 => (fun _ _ _ _ => none, fun _ _ _ _ _ => none, fun _ _ _ _ => none)
  | n + 1 => (f_X0_own_e (g_X0_own n), f_X0_run_e (g_X0_own n), f_X0_runUnder_e (g_X0_own n))
set_option maxHeartbeats 4000000 in
set_option maxRecDepth 100000 in
theorem c9_X0_own : ∀ (n d : Nat), 2 + n ≤ d → Q_X0_own (g_X0_own n) d := by
  intro n
  induction n with
  | zero =>
    intro d _
    exact ⟨(fun _ _ _ _ _ h => by cases h), (fun _ _ _ _ _ _ h => by cases h), (fun _ _ _ _ _ h => by cases h)⟩
  | succ n ih =>
    intro d hd
    obtain ⟨e, rfl⟩ : ∃ e, d = e + 1 := ⟨d - 1, by omega⟩
    refine ⟨?_, ?_, ?_⟩
    · intro v1 v2 v3 m q hf
      exact z_met (by decide +kernel) (Nat.le_of_ble_eq_true rfl) (b_X0_own_e e (by omega) (g_X0_own n) (ih e (by omega)) v1 v2 v3 m (K := fun z => ((some (Value.int q.1), (ej_sh, q.2)) : Option Value × ej_H) = (some (Value.int z.1), (ej_sh, z.2))) hf rfl (fun _ h => h))
    · intro v1 v2 v3 v4 m q hf
      exact z_met (by decide +kernel) (Nat.le_of_ble_eq_true rfl) (b_X0_run_e e (by omega) (g_X0_own n) (ih e (by omega)) v1 v2 v3 v4 m (K := fun z => ((some (Value.int q.1), (ej_sh, q.2)) : Option Value × ej_H) = (some (Value.int z.1), (ej_sh, z.2))) hf rfl (fun _ h => h))
    · intro v1 v2 v3 m q hf
      exact z_met (by decide +kernel) (Nat.le_of_ble_eq_true rfl) (b_X0_runUnder_e e (by omega) (g_X0_own n) (ih e (by omega)) v1 v2 v3 m (K := fun z => ((some (Value.int q.1), (ej_sh, q.2)) : Option Value × ej_H) = (some (Value.int z.1), (ej_sh, z.2))) hf rfl (fun _ h => h))
def f_X0_own (n : Nat) (v1 : Int32) (v2 : Int32) (v3 : Int32) (m : ej_M) : Option (Int32 × ej_M) := (g_X0_own n).1 v1 v2 v3 m
set_option maxHeartbeats 4000000 in
set_option maxRecDepth 100000 in
theorem c_X0_own (d : Nat) (hd : 122 ≤ d) (v1 : Int32) (v2 : Int32) (v3 : Int32) (m : ej_M) {q : (Int32 × ej_M)} (hf : f_X0_own oj_RF v1 v2 v3 m = some q) : ej_Ct yX0_own cX0_own 4 (some .int) d [.ref 34, .int v1, .int v2, .int v3] (ej_sh, m) (some (Value.int q.1), (ej_sh, q.2)) := (c9_X0_own oj_RF d hd).1 v1 v2 v3 m q hf
def f_X0_run (n : Nat) (v1 : Int32) (v2 : Int32) (v3 : Int32) (v4 : Int32) (m : ej_M) : Option (Int32 × ej_M) := (g_X0_own n).2.1 v1 v2 v3 v4 m
set_option maxHeartbeats 4000000 in
set_option maxRecDepth 100000 in
theorem c_X0_run (d : Nat) (hd : 122 ≤ d) (v1 : Int32) (v2 : Int32) (v3 : Int32) (v4 : Int32) (m : ej_M) {q : (Int32 × ej_M)} (hf : f_X0_run oj_RF v1 v2 v3 v4 m = some q) : ej_Ct yX0_run cX0_run 6 (some .int) d [.ref 34, .int v1, .int v2, .int v3, .int v4] (ej_sh, m) (some (Value.int q.1), (ej_sh, q.2)) := (c9_X0_own oj_RF d hd).2.1 v1 v2 v3 v4 m q hf
def f_X0_runUnder (n : Nat) (v1 : Int32) (v2 : Int32) (v3 : Int32) (m : ej_M) : Option (Int32 × ej_M) := (g_X0_own n).2.2 v1 v2 v3 m
set_option maxHeartbeats 4000000 in
set_option maxRecDepth 100000 in
theorem c_X0_runUnder (d : Nat) (hd : 122 ≤ d) (v1 : Int32) (v2 : Int32) (v3 : Int32) (m : ej_M) {q : (Int32 × ej_M)} (hf : f_X0_runUnder oj_RF v1 v2 v3 m = some q) : ej_Ct yX0_runUnder cX0_runUnder 6 (some .int) d [.ref 34, .int v1, .int v2, .int v3] (ej_sh, m) (some (Value.int q.1), (ej_sh, q.2)) := (c9_X0_own oj_RF d hd).2.2 v1 v2 v3 m q hf
def f_X0_start (v1 : Int32) (v2 : Int32) (v3 : Int32) (m : ej_M) : Option (Int32 × ej_M) :=
  (oj_pf m 34 3 0).bind fun m1 =>
  (f_X0_has v1 m1).bind fun q2 =>
  if q2.1 = 0 then
    some (0, q2.2)
  else
    if v2 < 0 then
      some (0, q2.2)
    else
      if v2 < 4 then
        (oj_pf q2.2 34 4 v1).bind fun m3 =>
        (f_X0_own oj_RF v2 v3 0 m3).bind fun q4 =>
        some (q4.1, q4.2)
      else
        some (0, q2.2)
set_option maxHeartbeats 4000000 in
set_option maxRecDepth 100000 in
theorem b_X0_start (e : Nat) (hd : 122 ≤ e) (v1 : Int32) (v2 : Int32) (v3 : Int32) (m : ej_M) {x : (Int32 × ej_M)} {res : Option Value × ej_H} {K : (Int32 × ej_M) → Prop} (hf : f_X0_start v1 v2 v3 m = some x) (hK : K x) (h0 : ∀ q : (Int32 × ej_M), K q → res = (some (Value.int q.1), (ej_sh, q.2))) : ej_Z cX0_start 4 (some .int) RX0 "start" (e + 1) 0 [(0, .ref 34), (1, .int v1), (2, .int v2), (3, .int v3)] [] (ej_sh, m) res := by
  unfold f_X0_start at hf
  refine z_aload_n (pc := 0) (i := 0) (j := 0) dX0_start_0 rfl rfl ?_
  refine z_iconst (pc := 1) dX0_start_1 ki_0 ?_
  obtain ⟨m1, hm1, hf⟩ := Option.bind_eq_some_iff.mp hf
  refine z_oputI (pc := 2) dX0_start_2 lf_RX0_37 sh_34 rfl hm1 ?_
  refine z_aload_n (pc := 5) (i := 0) (j := 0) dX0_start_5 rfl rfl ?_
  refine z_iload_n (pc := 6) (i := 1) (j := 1) dX0_start_6 rfl rfl ?_
  obtain ⟨q2, hq2, hf⟩ := Option.bind_eq_some_iff.mp hf
  refine z_oVi (pc := 7) (as := [.int v1]) (rest := []) dX0_start_7 lm_RX0_26 mf_X0_has mi_X0_has mv_X0_has rc_34 rfl rfl (Nat.le_of_ble_eq_true rfl) (c_X0_has e (by omega) v1 m1 hq2) ?_
  refine z_if_eq (pc := 10) (tgt := 22) dX0_start_10 (by decide) (fun hc => ?_) (fun hc => ?_)
  · rw [if_pos hc] at hf
    refine z_iconst (pc := 22) dX0_start_22 ki_0 ?_
    obtain rfl := Option.some.inj hf
    rw [h0 _ hK]
    exact z_iret dX0_start_23 rfl rfl
  · rw [if_neg hc] at hf
    refine z_iload_n (pc := 13) (i := 2) (j := 2) dX0_start_13 rfl rfl ?_
    refine z_if_lt (pc := 14) (tgt := 22) dX0_start_14 (by decide) (fun hc => ?_) (fun hc => ?_)
    · rw [if_pos hc] at hf
      refine z_iconst (pc := 22) dX0_start_22 ki_0 ?_
      obtain rfl := Option.some.inj hf
      rw [h0 _ hK]
      exact z_iret dX0_start_23 rfl rfl
    · rw [if_neg hc] at hf
      refine z_iload_n (pc := 17) (i := 2) (j := 2) dX0_start_17 rfl rfl ?_
      refine z_iconst (pc := 18) dX0_start_18 ki_4 ?_
      refine z_icmp_lt (pc := 19) (tgt := 24) dX0_start_19 (by decide) (fun hc => ?_) (fun hc => ?_)
      · rw [if_pos hc] at hf
        refine z_aload_n (pc := 24) (i := 0) (j := 0) dX0_start_24 rfl rfl ?_
        refine z_iload_n (pc := 25) (i := 1) (j := 1) dX0_start_25 rfl rfl ?_
        obtain ⟨m3, hm3, hf⟩ := Option.bind_eq_some_iff.mp hf
        refine z_oputI (pc := 26) dX0_start_26 lf_RX0_40 sh_34 rfl hm3 ?_
        refine z_aload_n (pc := 29) (i := 0) (j := 0) dX0_start_29 rfl rfl ?_
        refine z_iload_n (pc := 30) (i := 2) (j := 2) dX0_start_30 rfl rfl ?_
        refine z_iload_n (pc := 31) (i := 3) (j := 3) dX0_start_31 rfl rfl ?_
        refine z_iconst (pc := 32) dX0_start_32 ki_0 ?_
        obtain ⟨q4, hq4, hf⟩ := Option.bind_eq_some_iff.mp hf
        refine z_oVi (pc := 33) (as := [.int v2, .int v3, .int 0]) (rest := []) dX0_start_33 lm_RX0_43 mf_X0_own mi_X0_own mv_X0_own rc_34 rfl rfl (Nat.le_of_ble_eq_true rfl) (c_X0_own e (by omega) v2 v3 0 m3 hq4) ?_
        obtain rfl := Option.some.inj hf
        rw [h0 _ hK]
        exact z_iret dX0_start_36 rfl rfl
      · rw [if_neg hc] at hf
        refine z_iconst (pc := 22) dX0_start_22 ki_0 ?_
        obtain rfl := Option.some.inj hf
        rw [h0 _ hK]
        exact z_iret dX0_start_23 rfl rfl
set_option maxHeartbeats 4000000 in
set_option maxRecDepth 100000 in
theorem c_X0_start (d : Nat) (hd : 123 ≤ d) (v1 : Int32) (v2 : Int32) (v3 : Int32) (m : ej_M) {q : (Int32 × ej_M)} (hf : f_X0_start v1 v2 v3 m = some q) : ej_Ct yX0_start cX0_start 4 (some .int) d [.ref 34, .int v1, .int v2, .int v3] (ej_sh, m) ((some (Value.int q.1), (ej_sh, q.2)) : Option Value × ej_H) := by
  obtain ⟨e, rfl⟩ : ∃ e, d = e + 1 := ⟨d - 1, by omega⟩
  exact z_met (by decide +kernel) (Nat.le_of_ble_eq_true rfl) (b_X0_start e (by omega) v1 v2 v3 m (K := fun z => ((some (Value.int q.1), (ej_sh, q.2)) : Option Value × ej_H) = (some (Value.int z.1), (ej_sh, z.2))) hf rfl (fun _ h => h))
def f_X10_act (v1 : Int32) (v2 : Int32) (v3 : Int32) (m : ej_M) : Option (Int32 × ej_M) :=
  (f_X0_start v1 v2 v3 m).bind fun q1 =>
  some (q1.1, q1.2)
set_option maxHeartbeats 4000000 in
set_option maxRecDepth 100000 in
theorem b_X10_act (e : Nat) (hd : 123 ≤ e) (v1 : Int32) (v2 : Int32) (v3 : Int32) (m : ej_M) {x : (Int32 × ej_M)} {res : Option Value × ej_H} {K : (Int32 × ej_M) → Prop} (hf : f_X10_act v1 v2 v3 m = some x) (hK : K x) (h0 : ∀ q : (Int32 × ej_M), K q → res = (some (Value.int q.1), (ej_sh, q.2))) : ej_Z cX10_act 4 (some .int) RX10 "act" (e + 1) 0 [(0, .ref 0), (1, .int v1), (2, .int v2), (3, .int v3)] [] (ej_sh, m) res := by
  unfold f_X10_act at hf
  refine z_aload_n (pc := 0) (i := 0) (j := 0) dX10_act_0 rfl rfl ?_
  refine z_ogetR (pc := 1) dX10_act_1 lf_RX10_72 sh_0 rfl rfl rfl ?_
  refine z_iload_n (pc := 4) (i := 1) (j := 1) dX10_act_4 rfl rfl ?_
  refine z_iload_n (pc := 5) (i := 2) (j := 2) dX10_act_5 rfl rfl ?_
  refine z_iload_n (pc := 6) (i := 3) (j := 3) dX10_act_6 rfl rfl ?_
  obtain ⟨q1, hq1, hf⟩ := Option.bind_eq_some_iff.mp hf
  refine z_oVi (pc := 7) (as := [.int v1, .int v2, .int v3]) (rest := []) dX10_act_7 lm_RX10_259 mf_X0_start mi_X0_start mv_X0_start rc_34 rfl rfl (Nat.le_of_ble_eq_true rfl) (c_X0_start e (by omega) v1 v2 v3 m hq1) ?_
  obtain rfl := Option.some.inj hf
  rw [h0 _ hK]
  exact z_iret dX10_act_10 rfl rfl
set_option maxHeartbeats 4000000 in
set_option maxRecDepth 100000 in
theorem c_X10_act (d : Nat) (hd : 124 ≤ d) (v1 : Int32) (v2 : Int32) (v3 : Int32) (m : ej_M) {q : (Int32 × ej_M)} (hf : f_X10_act v1 v2 v3 m = some q) : ej_Ct yX10_act cX10_act 4 (some .int) d [.ref 0, .int v1, .int v2, .int v3] (ej_sh, m) ((some (Value.int q.1), (ej_sh, q.2)) : Option Value × ej_H) := by
  obtain ⟨e, rfl⟩ : ∃ e, d = e + 1 := ⟨d - 1, by omega⟩
  exact z_met (by decide +kernel) (Nat.le_of_ble_eq_true rfl) (b_X10_act e (by omega) v1 v2 v3 m (K := fun z => ((some (Value.int q.1), (ej_sh, q.2)) : Option Value × ej_H) = (some (Value.int z.1), (ej_sh, z.2))) hf rfl (fun _ h => h))
def f_X11_ran_B19  (m : ej_M) : Option (Unit × ej_M) :=
  (oj_pf m 41 45 ((m.1 41 45) + 1)).bind fun m1 =>
  some ((), m1)
set_option maxHeartbeats 4000000 in
set_option maxRecDepth 100000 in
theorem b_X11_ran_B19 (d : Nat)  (m : ej_M) {x : (Unit × ej_M)} {res : Option Value × ej_H} {K : (Unit × ej_M) → Prop} (hf : f_X11_ran_B19  m = some x) (hK : K x) (h0 : ∀ q : (Unit × ej_M), K q → res = (none, (ej_sh, q.2))) : ej_Z cX11_ran 2 none RX11 "ran" d 19 [(0, .ref 41)] [] (ej_sh, m) res := by
  unfold f_X11_ran_B19 at hf
  refine z_aload_n (pc := 19) (i := 0) (j := 0) dX11_ran_19 rfl rfl ?_
  refine z_dup (pc := 20) dX11_ran_20 rfl ?_
  refine z_ogetI (pc := 21) dX11_ran_21 lf_RX11_341 sh_41 rfl rfl ?_
  refine z_iconst (pc := 24) dX11_ran_24 ki_1 ?_
  refine z_iadd (pc := 25) dX11_ran_25 ?_
  obtain ⟨m1, hm1, hf⟩ := Option.bind_eq_some_iff.mp hf
  refine z_oputI (pc := 26) dX11_ran_26 lf_RX11_341 sh_41 rfl hm1 ?_
  obtain rfl := Option.some.inj hf
  rw [h0 _ hK]
  exact z_ret dX11_ran_29 rfl
def f_X11_ran (v1 : Int32) (m : ej_M) : Option (Unit × ej_M) :=
  if 24 ≤ (m.1 41 45) then
    f_X11_ran_B19  m
  else
    (oj_st 0 m 65 (m.1 41 45) v1).bind fun m1 =>
    f_X11_ran_B19  m1
set_option maxHeartbeats 4000000 in
set_option maxRecDepth 100000 in
theorem b_X11_ran (d : Nat) (v1 : Int32) (m : ej_M) {x : (Unit × ej_M)} {res : Option Value × ej_H} {K : (Unit × ej_M) → Prop} (hf : f_X11_ran v1 m = some x) (hK : K x) (h0 : ∀ q : (Unit × ej_M), K q → res = (none, (ej_sh, q.2))) : ej_Z cX11_ran 2 none RX11 "ran" d 0 [(0, .ref 41), (1, .int v1)] [] (ej_sh, m) res := by
  unfold f_X11_ran at hf
  refine z_aload_n (pc := 0) (i := 0) (j := 0) dX11_ran_0 rfl rfl ?_
  refine z_ogetI (pc := 1) dX11_ran_1 lf_RX11_341 sh_41 rfl rfl ?_
  refine z_bipush (pc := 4) dX11_ran_4 kb_24 ?_
  refine z_icmp_ge (pc := 6) (tgt := 19) dX11_ran_6 (by decide) (fun hc => ?_) (fun hc => ?_)
  · rw [if_pos hc] at hf
    exact z_pick [0] rfl (b_X11_ran_B19 d  m (K := K) hf hK  h0)
  · rw [if_neg hc] at hf
    refine z_aload_n (pc := 9) (i := 0) (j := 0) dX11_ran_9 rfl rfl ?_
    refine z_ogetR (pc := 10) dX11_ran_10 lf_RX11_81 sh_41 rfl rfl rfl ?_
    refine z_aload_n (pc := 13) (i := 0) (j := 0) dX11_ran_13 rfl rfl ?_
    refine z_ogetI (pc := 14) dX11_ran_14 lf_RX11_341 sh_41 rfl rfl ?_
    refine z_iload_n (pc := 17) (i := 1) (j := 1) dX11_ran_17 rfl rfl ?_
    obtain ⟨m1, hm1, hf⟩ := Option.bind_eq_some_iff.mp hf
    refine z_oiast (pc := 18) dX11_ran_18 hm1 ?_
    exact z_pick [0] rfl (b_X11_ran_B19 d  m1 (K := K) hf hK  h0)
set_option maxHeartbeats 4000000 in
set_option maxRecDepth 100000 in
theorem c_X11_ran (d : Nat) (hd : 0 ≤ d) (v1 : Int32) (m : ej_M) {q : (Unit × ej_M)} (hf : f_X11_ran v1 m = some q) : ej_Ct yX11_ran cX11_ran 2 none d [.ref 41, .int v1] (ej_sh, m) ((none, (ej_sh, q.2)) : Option Value × ej_H) := by
  exact z_met (by decide +kernel) (Nat.le_of_ble_eq_true rfl) (b_X11_ran d v1 m (K := fun z => ((none, (ej_sh, q.2)) : Option Value × ej_H) = (none, (ej_sh, z.2))) hf rfl (fun _ h => h))
def f_X11_plainStands (v1 : Int32) (v2 : Int32) (m : ej_M) : Option (Int32 × ej_M) :=
  (f_X11_ran 1 m).bind fun q1 =>
  some ((v2 + v1), q1.2)
set_option maxHeartbeats 4000000 in
set_option maxRecDepth 100000 in
theorem b_X11_plainStands (e : Nat) (hd : 0 ≤ e) (v1 : Int32) (v2 : Int32) (m : ej_M) {x : (Int32 × ej_M)} {res : Option Value × ej_H} {K : (Int32 × ej_M) → Prop} (hf : f_X11_plainStands v1 v2 m = some x) (hK : K x) (h0 : ∀ q : (Int32 × ej_M), K q → res = (some (Value.int q.1), (ej_sh, q.2))) : ej_Z cX11_plainStands 3 (some .int) RX11 "plainStands" (e + 1) 0 [(0, .ref 41), (1, .int v1), (2, .int v2)] [] (ej_sh, m) res := by
  unfold f_X11_plainStands at hf
  refine z_aload_n (pc := 0) (i := 0) (j := 0) dX11_plainStands_0 rfl rfl ?_
  refine z_iconst (pc := 1) dX11_plainStands_1 ki_1 ?_
  obtain ⟨q1, hq1, hf⟩ := Option.bind_eq_some_iff.mp hf
  refine z_oVv (pc := 2) (as := [.int 1]) (rest := []) dX11_plainStands_2 lm_RX11_344 mf_X11_ran mi_X11_ran mv_X11_ran rc_41 rfl rfl (Nat.le_of_ble_eq_true rfl) (c_X11_ran e (by omega) 1 m hq1) ?_
  refine z_iload_n (pc := 5) (i := 2) (j := 2) dX11_plainStands_5 rfl rfl ?_
  refine z_iload_n (pc := 6) (i := 1) (j := 1) dX11_plainStands_6 rfl rfl ?_
  refine z_iadd (pc := 7) dX11_plainStands_7 ?_
  obtain rfl := Option.some.inj hf
  rw [h0 _ hK]
  exact z_iret dX11_plainStands_8 rfl rfl
set_option maxHeartbeats 4000000 in
set_option maxRecDepth 100000 in
theorem c_X11_plainStands (d : Nat) (hd : 1 ≤ d) (v1 : Int32) (v2 : Int32) (m : ej_M) {q : (Int32 × ej_M)} (hf : f_X11_plainStands v1 v2 m = some q) : ej_Ct yX11_plainStands cX11_plainStands 3 (some .int) d [.ref 41, .int v1, .int v2] (ej_sh, m) ((some (Value.int q.1), (ej_sh, q.2)) : Option Value × ej_H) := by
  obtain ⟨e, rfl⟩ : ∃ e, d = e + 1 := ⟨d - 1, by omega⟩
  exact z_met (by decide +kernel) (Nat.le_of_ble_eq_true rfl) (b_X11_plainStands e (by omega) v1 v2 m (K := fun z => ((some (Value.int q.1), (ej_sh, q.2)) : Option Value × ej_H) = (some (Value.int z.1), (ej_sh, z.2))) hf rfl (fun _ h => h))
def f_X11_chippedStands (v1 : Int32) (v2 : Int32) (m : ej_M) : Option (Int32 × ej_M) :=
  (f_X11_ran 70 m).bind fun q1 =>
  (f_X11_plainStands v1 v2 q1.2).bind fun q2 =>
  some ((q2.1 * 2), q2.2)
set_option maxHeartbeats 4000000 in
set_option maxRecDepth 100000 in
theorem b_X11_chippedStands (e : Nat) (hd : 1 ≤ e) (v1 : Int32) (v2 : Int32) (m : ej_M) {x : (Int32 × ej_M)} {res : Option Value × ej_H} {K : (Int32 × ej_M) → Prop} (hf : f_X11_chippedStands v1 v2 m = some x) (hK : K x) (h0 : ∀ q : (Int32 × ej_M), K q → res = (some (Value.int q.1), (ej_sh, q.2))) : ej_Z cX11_chippedStands 3 (some .int) RX11 "chippedStands" (e + 1) 0 [(0, .ref 41), (1, .int v1), (2, .int v2)] [] (ej_sh, m) res := by
  unfold f_X11_chippedStands at hf
  refine z_aload_n (pc := 0) (i := 0) (j := 0) dX11_chippedStands_0 rfl rfl ?_
  refine z_bipush (pc := 1) dX11_chippedStands_1 kb_70 ?_
  obtain ⟨q1, hq1, hf⟩ := Option.bind_eq_some_iff.mp hf
  refine z_oVv (pc := 3) (as := [.int 70]) (rest := []) dX11_chippedStands_3 lm_RX11_344 mf_X11_ran mi_X11_ran mv_X11_ran rc_41 rfl rfl (Nat.le_of_ble_eq_true rfl) (c_X11_ran e (by omega) 70 m hq1) ?_
  refine z_aload_n (pc := 6) (i := 0) (j := 0) dX11_chippedStands_6 rfl rfl ?_
  refine z_iload_n (pc := 7) (i := 1) (j := 1) dX11_chippedStands_7 rfl rfl ?_
  refine z_iload_n (pc := 8) (i := 2) (j := 2) dX11_chippedStands_8 rfl rfl ?_
  obtain ⟨q2, hq2, hf⟩ := Option.bind_eq_some_iff.mp hf
  refine z_oVi (pc := 9) (as := [.int v1, .int v2]) (rest := []) dX11_chippedStands_9 lm_RX11_347 mf_X11_plainStands mi_X11_plainStands mv_X11_plainStands rc_41 rfl rfl (Nat.le_of_ble_eq_true rfl) (c_X11_plainStands e (by omega) v1 v2 q1.2 hq2) ?_
  refine z_iconst (pc := 12) dX11_chippedStands_12 ki_2 ?_
  refine z_imul (pc := 13) dX11_chippedStands_13 ?_
  obtain rfl := Option.some.inj hf
  rw [h0 _ hK]
  exact z_iret dX11_chippedStands_14 rfl rfl
set_option maxHeartbeats 4000000 in
set_option maxRecDepth 100000 in
theorem c_X11_chippedStands (d : Nat) (hd : 2 ≤ d) (v1 : Int32) (v2 : Int32) (m : ej_M) {q : (Int32 × ej_M)} (hf : f_X11_chippedStands v1 v2 m = some q) : ej_Ct yX11_chippedStands cX11_chippedStands 3 (some .int) d [.ref 41, .int v1, .int v2] (ej_sh, m) ((some (Value.int q.1), (ej_sh, q.2)) : Option Value × ej_H) := by
  obtain ⟨e, rfl⟩ : ∃ e, d = e + 1 := ⟨d - 1, by omega⟩
  exact z_met (by decide +kernel) (Nat.le_of_ble_eq_true rfl) (b_X11_chippedStands e (by omega) v1 v2 m (K := fun z => ((some (Value.int q.1), (ej_sh, q.2)) : Option Value × ej_H) = (some (Value.int z.1), (ej_sh, z.2))) hf rfl (fun _ h => h))
def f_X11_isUnder_B44 (v0 : Int32) (v1 : Int32) (m : ej_M) : Option (Int32 × ej_M) :=
  if v1 = 6 then
    if v0 = 7 then
      some (1, m)
    else
      some (0, m)
  else
    some (0, m)
set_option maxHeartbeats 4000000 in
set_option maxRecDepth 100000 in
theorem b_X11_isUnder_B44 (d : Nat) (v0 : Int32) (v1 : Int32) (m : ej_M) {x : (Int32 × ej_M)} {res : Option Value × ej_H} {K : (Int32 × ej_M) → Prop} (hf : f_X11_isUnder_B44 v0 v1 m = some x) (hK : K x) (h0 : ∀ q : (Int32 × ej_M), K q → res = (some (Value.int q.1), (ej_sh, q.2))) : ej_Z cX11_isUnder 2 (some .boolean) RX11 "isUnder" d 44 [(0, .int v0), (1, .int v1)] [] (ej_sh, m) res := by
  unfold f_X11_isUnder_B44 at hf
  refine z_iload_n (pc := 44) (i := 1) (j := 1) dX11_isUnder_44 rfl rfl ?_
  refine z_bipush (pc := 45) dX11_isUnder_45 kb_6 ?_
  refine z_icmp_ne (pc := 47) (tgt := 60) dX11_isUnder_47 (by decide) (fun hc => ?_) (fun hc => ?_)
  · rw [if_neg hc] at hf
    refine z_iconst (pc := 60) dX11_isUnder_60 ki_0 ?_
    obtain rfl := Option.some.inj hf
    rw [h0 _ hK]
    exact z_iret dX11_isUnder_61 rfl rfl
  · rw [if_pos hc] at hf
    refine z_iload_n (pc := 50) (i := 0) (j := 0) dX11_isUnder_50 rfl rfl ?_
    refine z_bipush (pc := 51) dX11_isUnder_51 kb_7 ?_
    refine z_icmp_ne (pc := 53) (tgt := 60) dX11_isUnder_53 (by decide) (fun hc => ?_) (fun hc => ?_)
    · rw [if_neg hc] at hf
      refine z_iconst (pc := 60) dX11_isUnder_60 ki_0 ?_
      obtain rfl := Option.some.inj hf
      rw [h0 _ hK]
      exact z_iret dX11_isUnder_61 rfl rfl
    · rw [if_pos hc] at hf
      refine z_iconst (pc := 56) dX11_isUnder_56 ki_1 ?_
      refine z_goto (pc := 57) (tgt := 61) dX11_isUnder_57 (by decide) ?_
      obtain rfl := Option.some.inj hf
      rw [h0 _ hK]
      exact z_iret dX11_isUnder_61 rfl rfl
def f_X11_isUnder_B34 (v0 : Int32) (v1 : Int32) (m : ej_M) : Option (Int32 × ej_M) :=
  if v1 = 3 then
    if v0 = 5 then
      some (1, m)
    else
      f_X11_isUnder_B44 v0 v1 m
  else
    f_X11_isUnder_B44 v0 v1 m
set_option maxHeartbeats 4000000 in
set_option maxRecDepth 100000 in
theorem b_X11_isUnder_B34 (d : Nat) (v0 : Int32) (v1 : Int32) (m : ej_M) {x : (Int32 × ej_M)} {res : Option Value × ej_H} {K : (Int32 × ej_M) → Prop} (hf : f_X11_isUnder_B34 v0 v1 m = some x) (hK : K x) (h0 : ∀ q : (Int32 × ej_M), K q → res = (some (Value.int q.1), (ej_sh, q.2))) : ej_Z cX11_isUnder 2 (some .boolean) RX11 "isUnder" d 34 [(0, .int v0), (1, .int v1)] [] (ej_sh, m) res := by
  unfold f_X11_isUnder_B34 at hf
  refine z_iload_n (pc := 34) (i := 1) (j := 1) dX11_isUnder_34 rfl rfl ?_
  refine z_iconst (pc := 35) dX11_isUnder_35 ki_3 ?_
  refine z_icmp_ne (pc := 36) (tgt := 44) dX11_isUnder_36 (by decide) (fun hc => ?_) (fun hc => ?_)
  · rw [if_neg hc] at hf
    exact z_pick [0, 1] rfl (b_X11_isUnder_B44 d v0 v1 m (K := K) hf hK  h0)
  · rw [if_pos hc] at hf
    refine z_iload_n (pc := 39) (i := 0) (j := 0) dX11_isUnder_39 rfl rfl ?_
    refine z_iconst (pc := 40) dX11_isUnder_40 ki_5 ?_
    refine z_icmp_eq (pc := 41) (tgt := 56) dX11_isUnder_41 (by decide) (fun hc => ?_) (fun hc => ?_)
    · rw [if_pos hc] at hf
      refine z_iconst (pc := 56) dX11_isUnder_56 ki_1 ?_
      refine z_goto (pc := 57) (tgt := 61) dX11_isUnder_57 (by decide) ?_
      obtain rfl := Option.some.inj hf
      rw [h0 _ hK]
      exact z_iret dX11_isUnder_61 rfl rfl
    · rw [if_neg hc] at hf
      exact z_pick [0, 1] rfl (b_X11_isUnder_B44 d v0 v1 m (K := K) hf hK  h0)
def f_X11_isUnder_B19 (v0 : Int32) (v1 : Int32) (m : ej_M) : Option (Int32 × ej_M) :=
  if v1 = 2 then
    if v0 = 3 then
      some (1, m)
    else
      if v0 = 5 then
        some (1, m)
      else
        f_X11_isUnder_B34 v0 v1 m
  else
    f_X11_isUnder_B34 v0 v1 m
set_option maxHeartbeats 4000000 in
set_option maxRecDepth 100000 in
theorem b_X11_isUnder_B19 (d : Nat) (v0 : Int32) (v1 : Int32) (m : ej_M) {x : (Int32 × ej_M)} {res : Option Value × ej_H} {K : (Int32 × ej_M) → Prop} (hf : f_X11_isUnder_B19 v0 v1 m = some x) (hK : K x) (h0 : ∀ q : (Int32 × ej_M), K q → res = (some (Value.int q.1), (ej_sh, q.2))) : ej_Z cX11_isUnder 2 (some .boolean) RX11 "isUnder" d 19 [(0, .int v0), (1, .int v1)] [] (ej_sh, m) res := by
  unfold f_X11_isUnder_B19 at hf
  refine z_iload_n (pc := 19) (i := 1) (j := 1) dX11_isUnder_19 rfl rfl ?_
  refine z_iconst (pc := 20) dX11_isUnder_20 ki_2 ?_
  refine z_icmp_ne (pc := 21) (tgt := 34) dX11_isUnder_21 (by decide) (fun hc => ?_) (fun hc => ?_)
  · rw [if_neg hc] at hf
    exact z_pick [0, 1] rfl (b_X11_isUnder_B34 d v0 v1 m (K := K) hf hK  h0)
  · rw [if_pos hc] at hf
    refine z_iload_n (pc := 24) (i := 0) (j := 0) dX11_isUnder_24 rfl rfl ?_
    refine z_iconst (pc := 25) dX11_isUnder_25 ki_3 ?_
    refine z_icmp_eq (pc := 26) (tgt := 56) dX11_isUnder_26 (by decide) (fun hc => ?_) (fun hc => ?_)
    · rw [if_pos hc] at hf
      refine z_iconst (pc := 56) dX11_isUnder_56 ki_1 ?_
      refine z_goto (pc := 57) (tgt := 61) dX11_isUnder_57 (by decide) ?_
      obtain rfl := Option.some.inj hf
      rw [h0 _ hK]
      exact z_iret dX11_isUnder_61 rfl rfl
    · rw [if_neg hc] at hf
      refine z_iload_n (pc := 29) (i := 0) (j := 0) dX11_isUnder_29 rfl rfl ?_
      refine z_iconst (pc := 30) dX11_isUnder_30 ki_5 ?_
      refine z_icmp_eq (pc := 31) (tgt := 56) dX11_isUnder_31 (by decide) (fun hc => ?_) (fun hc => ?_)
      · rw [if_pos hc] at hf
        refine z_iconst (pc := 56) dX11_isUnder_56 ki_1 ?_
        refine z_goto (pc := 57) (tgt := 61) dX11_isUnder_57 (by decide) ?_
        obtain rfl := Option.some.inj hf
        rw [h0 _ hK]
        exact z_iret dX11_isUnder_61 rfl rfl
      · rw [if_neg hc] at hf
        exact z_pick [0, 1] rfl (b_X11_isUnder_B34 d v0 v1 m (K := K) hf hK  h0)
def f_X11_isUnder (v0 : Int32) (v1 : Int32) (m : ej_M) : Option (Int32 × ej_M) :=
  if v1 = 0 then
    some (1, m)
  else
    if v0 = v1 then
      some (1, m)
    else
      if v1 = 1 then
        if v0 = 4 then
          some (1, m)
        else
          f_X11_isUnder_B19 v0 v1 m
      else
        f_X11_isUnder_B19 v0 v1 m
set_option maxHeartbeats 4000000 in
set_option maxRecDepth 100000 in
theorem b_X11_isUnder (d : Nat) (v0 : Int32) (v1 : Int32) (m : ej_M) {x : (Int32 × ej_M)} {res : Option Value × ej_H} {K : (Int32 × ej_M) → Prop} (hf : f_X11_isUnder v0 v1 m = some x) (hK : K x) (h0 : ∀ q : (Int32 × ej_M), K q → res = (some (Value.int q.1), (ej_sh, q.2))) : ej_Z cX11_isUnder 2 (some .boolean) RX11 "isUnder" d 0 [(0, .int v0), (1, .int v1)] [] (ej_sh, m) res := by
  unfold f_X11_isUnder at hf
  refine z_iload_n (pc := 0) (i := 1) (j := 1) dX11_isUnder_0 rfl rfl ?_
  refine z_if_eq (pc := 1) (tgt := 56) dX11_isUnder_1 (by decide) (fun hc => ?_) (fun hc => ?_)
  · rw [if_pos hc] at hf
    refine z_iconst (pc := 56) dX11_isUnder_56 ki_1 ?_
    refine z_goto (pc := 57) (tgt := 61) dX11_isUnder_57 (by decide) ?_
    obtain rfl := Option.some.inj hf
    rw [h0 _ hK]
    exact z_iret dX11_isUnder_61 rfl rfl
  · rw [if_neg hc] at hf
    refine z_iload_n (pc := 4) (i := 0) (j := 0) dX11_isUnder_4 rfl rfl ?_
    refine z_iload_n (pc := 5) (i := 1) (j := 1) dX11_isUnder_5 rfl rfl ?_
    refine z_icmp_eq (pc := 6) (tgt := 56) dX11_isUnder_6 (by decide) (fun hc => ?_) (fun hc => ?_)
    · rw [if_pos hc] at hf
      refine z_iconst (pc := 56) dX11_isUnder_56 ki_1 ?_
      refine z_goto (pc := 57) (tgt := 61) dX11_isUnder_57 (by decide) ?_
      obtain rfl := Option.some.inj hf
      rw [h0 _ hK]
      exact z_iret dX11_isUnder_61 rfl rfl
    · rw [if_neg hc] at hf
      refine z_iload_n (pc := 9) (i := 1) (j := 1) dX11_isUnder_9 rfl rfl ?_
      refine z_iconst (pc := 10) dX11_isUnder_10 ki_1 ?_
      refine z_icmp_ne (pc := 11) (tgt := 19) dX11_isUnder_11 (by decide) (fun hc => ?_) (fun hc => ?_)
      · rw [if_neg hc] at hf
        exact z_pick [0, 1] rfl (b_X11_isUnder_B19 d v0 v1 m (K := K) hf hK  h0)
      · rw [if_pos hc] at hf
        refine z_iload_n (pc := 14) (i := 0) (j := 0) dX11_isUnder_14 rfl rfl ?_
        refine z_iconst (pc := 15) dX11_isUnder_15 ki_4 ?_
        refine z_icmp_eq (pc := 16) (tgt := 56) dX11_isUnder_16 (by decide) (fun hc => ?_) (fun hc => ?_)
        · rw [if_pos hc] at hf
          refine z_iconst (pc := 56) dX11_isUnder_56 ki_1 ?_
          refine z_goto (pc := 57) (tgt := 61) dX11_isUnder_57 (by decide) ?_
          obtain rfl := Option.some.inj hf
          rw [h0 _ hK]
          exact z_iret dX11_isUnder_61 rfl rfl
        · rw [if_neg hc] at hf
          exact z_pick [0, 1] rfl (b_X11_isUnder_B19 d v0 v1 m (K := K) hf hK  h0)
set_option maxHeartbeats 4000000 in
set_option maxRecDepth 100000 in
theorem c_X11_isUnder (d : Nat) (hd : 0 ≤ d) (v0 : Int32) (v1 : Int32) (m : ej_M) {q : (Int32 × ej_M)} (hf : f_X11_isUnder v0 v1 m = some q) : ej_Ct yX11_isUnder cX11_isUnder 2 (some .boolean) d [.int v0, .int v1] (ej_sh, m) ((some (Value.int q.1), (ej_sh, q.2)) : Option Value × ej_H) := by
  exact z_met (by decide +kernel) (Nat.le_of_ble_eq_true rfl) (b_X11_isUnder d v0 v1 m (K := fun z => ((some (Value.int q.1), (ej_sh, q.2)) : Option Value × ej_H) = (some (Value.int z.1), (ej_sh, z.2))) hf rfl (fun _ h => h))
def f_X11_standsOf (v1 : Int32) (v2 : Int32) (m : ej_M) : Option (Int32 × ej_M) :=
  (oj_ld 0 m 64 v1).bind fun w1 =>
  (f_X11_isUnder w1 1 m).bind fun q2 =>
  if q2.1 = 0 then
    (oj_ld 0 q2.2 64 v1).bind fun w3 =>
    if w3 = 7 then
      (f_X11_ran 81 q2.2).bind fun q7 =>
      (f_X11_chippedStands v1 v2 q7.2).bind fun q8 =>
      some ((q8.1 - 1), q8.2)
    else
      (oj_ld 0 q2.2 64 v1).bind fun w4 =>
      if w4 = 6 then
        (f_X11_chippedStands v1 v2 q2.2).bind fun q6 =>
        some (q6.1, q6.2)
      else
        (f_X11_plainStands v1 v2 q2.2).bind fun q5 =>
        some (q5.1, q5.2)
  else
    (f_X11_ran 20 q2.2).bind fun q9 =>
    (f_X11_plainStands v1 v2 q9.2).bind fun q10 =>
    some ((q10.1 + 3), q10.2)
set_option maxHeartbeats 4000000 in
set_option maxRecDepth 100000 in
theorem b_X11_standsOf (e : Nat) (hd : 2 ≤ e) (v1 : Int32) (v2 : Int32) (m : ej_M) {x : (Int32 × ej_M)} {res : Option Value × ej_H} {K : (Int32 × ej_M) → Prop} (hf : f_X11_standsOf v1 v2 m = some x) (hK : K x) (h0 : ∀ q : (Int32 × ej_M), K q → res = (some (Value.int q.1), (ej_sh, q.2))) : ej_Z cX11_standsOf 3 (some .int) RX11 "standsOf" (e + 1) 0 [(0, .ref 41), (1, .int v1), (2, .int v2)] [] (ej_sh, m) res := by
  unfold f_X11_standsOf at hf
  refine z_aload_n (pc := 0) (i := 0) (j := 0) dX11_standsOf_0 rfl rfl ?_
  refine z_ogetR (pc := 1) dX11_standsOf_1 lf_RX11_78 sh_41 rfl rfl rfl ?_
  refine z_iload_n (pc := 4) (i := 1) (j := 1) dX11_standsOf_4 rfl rfl ?_
  obtain ⟨w1, hw1, hf⟩ := Option.bind_eq_some_iff.mp hf
  refine z_oiald (pc := 5) dX11_standsOf_5 hw1 ?_
  refine z_iconst (pc := 6) dX11_standsOf_6 ki_1 ?_
  obtain ⟨q2, hq2, hf⟩ := Option.bind_eq_some_iff.mp hf
  refine z_oSi (pc := 7) (as := [.int w1, .int 1]) (rest := []) dX11_standsOf_7 lm_RX11_350 mf_X11_isUnder ms_X11_isUnder rfl rfl (Nat.le_of_ble_eq_true rfl) (c_X11_isUnder e (by omega) w1 1 m hq2) ?_
  refine z_if_eq (pc := 10) (tgt := 28) dX11_standsOf_10 (by decide) (fun hc => ?_) (fun hc => ?_)
  · rw [if_pos hc] at hf
    refine z_aload_n (pc := 28) (i := 0) (j := 0) dX11_standsOf_28 rfl rfl ?_
    refine z_ogetR (pc := 29) dX11_standsOf_29 lf_RX11_78 sh_41 rfl rfl rfl ?_
    refine z_iload_n (pc := 32) (i := 1) (j := 1) dX11_standsOf_32 rfl rfl ?_
    obtain ⟨w3, hw3, hf⟩ := Option.bind_eq_some_iff.mp hf
    refine z_oiald (pc := 33) dX11_standsOf_33 hw3 ?_
    refine z_bipush (pc := 34) dX11_standsOf_34 kb_7 ?_
    refine z_icmp_ne (pc := 36) (tgt := 54) dX11_standsOf_36 (by decide) (fun hc => ?_) (fun hc => ?_)
    · rw [if_neg hc] at hf
      refine z_aload_n (pc := 54) (i := 0) (j := 0) dX11_standsOf_54 rfl rfl ?_
      refine z_ogetR (pc := 55) dX11_standsOf_55 lf_RX11_78 sh_41 rfl rfl rfl ?_
      refine z_iload_n (pc := 58) (i := 1) (j := 1) dX11_standsOf_58 rfl rfl ?_
      obtain ⟨w4, hw4, hf⟩ := Option.bind_eq_some_iff.mp hf
      refine z_oiald (pc := 59) dX11_standsOf_59 hw4 ?_
      refine z_bipush (pc := 60) dX11_standsOf_60 kb_6 ?_
      refine z_icmp_ne (pc := 62) (tgt := 74) dX11_standsOf_62 (by decide) (fun hc => ?_) (fun hc => ?_)
      · rw [if_neg hc] at hf
        refine z_aload_n (pc := 74) (i := 0) (j := 0) dX11_standsOf_74 rfl rfl ?_
        refine z_iload_n (pc := 75) (i := 1) (j := 1) dX11_standsOf_75 rfl rfl ?_
        refine z_iload_n (pc := 76) (i := 2) (j := 2) dX11_standsOf_76 rfl rfl ?_
        obtain ⟨q5, hq5, hf⟩ := Option.bind_eq_some_iff.mp hf
        refine z_oVi (pc := 77) (as := [.int v1, .int v2]) (rest := []) dX11_standsOf_77 lm_RX11_347 mf_X11_plainStands mi_X11_plainStands mv_X11_plainStands rc_41 rfl rfl (Nat.le_of_ble_eq_true rfl) (c_X11_plainStands e (by omega) v1 v2 q2.2 hq5) ?_
        obtain rfl := Option.some.inj hf
        rw [h0 _ hK]
        exact z_iret dX11_standsOf_80 rfl rfl
      · rw [if_pos hc] at hf
        refine z_aload_n (pc := 65) (i := 0) (j := 0) dX11_standsOf_65 rfl rfl ?_
        refine z_iload_n (pc := 66) (i := 1) (j := 1) dX11_standsOf_66 rfl rfl ?_
        refine z_iload_n (pc := 67) (i := 2) (j := 2) dX11_standsOf_67 rfl rfl ?_
        obtain ⟨q6, hq6, hf⟩ := Option.bind_eq_some_iff.mp hf
        refine z_oVi (pc := 68) (as := [.int v1, .int v2]) (rest := []) dX11_standsOf_68 lm_RX11_353 mf_X11_chippedStands mi_X11_chippedStands mv_X11_chippedStands rc_41 rfl rfl (Nat.le_of_ble_eq_true rfl) (c_X11_chippedStands e (by omega) v1 v2 q2.2 hq6) ?_
        refine z_goto (pc := 71) (tgt := 80) dX11_standsOf_71 (by decide) ?_
        obtain rfl := Option.some.inj hf
        rw [h0 _ hK]
        exact z_iret dX11_standsOf_80 rfl rfl
    · rw [if_pos hc] at hf
      refine z_aload_n (pc := 39) (i := 0) (j := 0) dX11_standsOf_39 rfl rfl ?_
      refine z_bipush (pc := 40) dX11_standsOf_40 kb_81 ?_
      obtain ⟨q7, hq7, hf⟩ := Option.bind_eq_some_iff.mp hf
      refine z_oVv (pc := 42) (as := [.int 81]) (rest := []) dX11_standsOf_42 lm_RX11_344 mf_X11_ran mi_X11_ran mv_X11_ran rc_41 rfl rfl (Nat.le_of_ble_eq_true rfl) (c_X11_ran e (by omega) 81 q2.2 hq7) ?_
      refine z_aload_n (pc := 45) (i := 0) (j := 0) dX11_standsOf_45 rfl rfl ?_
      refine z_iload_n (pc := 46) (i := 1) (j := 1) dX11_standsOf_46 rfl rfl ?_
      refine z_iload_n (pc := 47) (i := 2) (j := 2) dX11_standsOf_47 rfl rfl ?_
      obtain ⟨q8, hq8, hf⟩ := Option.bind_eq_some_iff.mp hf
      refine z_oVi (pc := 48) (as := [.int v1, .int v2]) (rest := []) dX11_standsOf_48 lm_RX11_353 mf_X11_chippedStands mi_X11_chippedStands mv_X11_chippedStands rc_41 rfl rfl (Nat.le_of_ble_eq_true rfl) (c_X11_chippedStands e (by omega) v1 v2 q7.2 hq8) ?_
      refine z_iconst (pc := 51) dX11_standsOf_51 ki_1 ?_
      refine z_isub (pc := 52) dX11_standsOf_52 ?_
      obtain rfl := Option.some.inj hf
      rw [h0 _ hK]
      exact z_iret dX11_standsOf_53 rfl rfl
  · rw [if_neg hc] at hf
    refine z_aload_n (pc := 13) (i := 0) (j := 0) dX11_standsOf_13 rfl rfl ?_
    refine z_bipush (pc := 14) dX11_standsOf_14 kb_20 ?_
    obtain ⟨q9, hq9, hf⟩ := Option.bind_eq_some_iff.mp hf
    refine z_oVv (pc := 16) (as := [.int 20]) (rest := []) dX11_standsOf_16 lm_RX11_344 mf_X11_ran mi_X11_ran mv_X11_ran rc_41 rfl rfl (Nat.le_of_ble_eq_true rfl) (c_X11_ran e (by omega) 20 q2.2 hq9) ?_
    refine z_aload_n (pc := 19) (i := 0) (j := 0) dX11_standsOf_19 rfl rfl ?_
    refine z_iload_n (pc := 20) (i := 1) (j := 1) dX11_standsOf_20 rfl rfl ?_
    refine z_iload_n (pc := 21) (i := 2) (j := 2) dX11_standsOf_21 rfl rfl ?_
    obtain ⟨q10, hq10, hf⟩ := Option.bind_eq_some_iff.mp hf
    refine z_oVi (pc := 22) (as := [.int v1, .int v2]) (rest := []) dX11_standsOf_22 lm_RX11_347 mf_X11_plainStands mi_X11_plainStands mv_X11_plainStands rc_41 rfl rfl (Nat.le_of_ble_eq_true rfl) (c_X11_plainStands e (by omega) v1 v2 q9.2 hq10) ?_
    refine z_iconst (pc := 25) dX11_standsOf_25 ki_3 ?_
    refine z_iadd (pc := 26) dX11_standsOf_26 ?_
    obtain rfl := Option.some.inj hf
    rw [h0 _ hK]
    exact z_iret dX11_standsOf_27 rfl rfl
set_option maxHeartbeats 4000000 in
set_option maxRecDepth 100000 in
theorem c_X11_standsOf (d : Nat) (hd : 3 ≤ d) (v1 : Int32) (v2 : Int32) (m : ej_M) {q : (Int32 × ej_M)} (hf : f_X11_standsOf v1 v2 m = some q) : ej_Ct yX11_standsOf cX11_standsOf 3 (some .int) d [.ref 41, .int v1, .int v2] (ej_sh, m) ((some (Value.int q.1), (ej_sh, q.2)) : Option Value × ej_H) := by
  obtain ⟨e, rfl⟩ : ∃ e, d = e + 1 := ⟨d - 1, by omega⟩
  exact z_met (by decide +kernel) (Nat.le_of_ble_eq_true rfl) (b_X11_standsOf e (by omega) v1 v2 m (K := fun z => ((some (Value.int q.1), (ej_sh, q.2)) : Option Value × ej_H) = (some (Value.int z.1), (ej_sh, z.2))) hf rfl (fun _ h => h))
def f_X11_plainHolds (v1 : Int32) (v2 : Int32) (m : ej_M) : Option (Int32 × ej_M) :=
  (f_X11_ran 10 m).bind fun q1 =>
  (f_X11_standsOf v1 v2 q1.2).bind fun q2 =>
  some ((q2.1 * 2), q2.2)
set_option maxHeartbeats 4000000 in
set_option maxRecDepth 100000 in
theorem b_X11_plainHolds (e : Nat) (hd : 3 ≤ e) (v1 : Int32) (v2 : Int32) (m : ej_M) {x : (Int32 × ej_M)} {res : Option Value × ej_H} {K : (Int32 × ej_M) → Prop} (hf : f_X11_plainHolds v1 v2 m = some x) (hK : K x) (h0 : ∀ q : (Int32 × ej_M), K q → res = (some (Value.int q.1), (ej_sh, q.2))) : ej_Z cX11_plainHolds 3 (some .int) RX11 "plainHolds" (e + 1) 0 [(0, .ref 41), (1, .int v1), (2, .int v2)] [] (ej_sh, m) res := by
  unfold f_X11_plainHolds at hf
  refine z_aload_n (pc := 0) (i := 0) (j := 0) dX11_plainHolds_0 rfl rfl ?_
  refine z_bipush (pc := 1) dX11_plainHolds_1 kb_10 ?_
  obtain ⟨q1, hq1, hf⟩ := Option.bind_eq_some_iff.mp hf
  refine z_oVv (pc := 3) (as := [.int 10]) (rest := []) dX11_plainHolds_3 lm_RX11_344 mf_X11_ran mi_X11_ran mv_X11_ran rc_41 rfl rfl (Nat.le_of_ble_eq_true rfl) (c_X11_ran e (by omega) 10 m hq1) ?_
  refine z_aload_n (pc := 6) (i := 0) (j := 0) dX11_plainHolds_6 rfl rfl ?_
  refine z_iload_n (pc := 7) (i := 1) (j := 1) dX11_plainHolds_7 rfl rfl ?_
  refine z_iload_n (pc := 8) (i := 2) (j := 2) dX11_plainHolds_8 rfl rfl ?_
  obtain ⟨q2, hq2, hf⟩ := Option.bind_eq_some_iff.mp hf
  refine z_oVi (pc := 9) (as := [.int v1, .int v2]) (rest := []) dX11_plainHolds_9 lm_RX11_356 mf_X11_standsOf mi_X11_standsOf mv_X11_standsOf rc_41 rfl rfl (Nat.le_of_ble_eq_true rfl) (c_X11_standsOf e (by omega) v1 v2 q1.2 hq2) ?_
  refine z_iconst (pc := 12) dX11_plainHolds_12 ki_2 ?_
  refine z_imul (pc := 13) dX11_plainHolds_13 ?_
  obtain rfl := Option.some.inj hf
  rw [h0 _ hK]
  exact z_iret dX11_plainHolds_14 rfl rfl
set_option maxHeartbeats 4000000 in
set_option maxRecDepth 100000 in
theorem c_X11_plainHolds (d : Nat) (hd : 4 ≤ d) (v1 : Int32) (v2 : Int32) (m : ej_M) {q : (Int32 × ej_M)} (hf : f_X11_plainHolds v1 v2 m = some q) : ej_Ct yX11_plainHolds cX11_plainHolds 3 (some .int) d [.ref 41, .int v1, .int v2] (ej_sh, m) ((some (Value.int q.1), (ej_sh, q.2)) : Option Value × ej_H) := by
  obtain ⟨e, rfl⟩ : ∃ e, d = e + 1 := ⟨d - 1, by omega⟩
  exact z_met (by decide +kernel) (Nat.le_of_ble_eq_true rfl) (b_X11_plainHolds e (by omega) v1 v2 m (K := fun z => ((some (Value.int q.1), (ej_sh, q.2)) : Option Value × ej_H) = (some (Value.int z.1), (ej_sh, z.2))) hf rfl (fun _ h => h))
def f_X11_heldHolds (v1 : Int32) (v2 : Int32) (m : ej_M) : Option (Int32 × ej_M) :=
  (f_X11_ran 30 m).bind fun q1 =>
  (f_X11_plainHolds v1 v2 q1.2).bind fun q2 =>
  some ((-q2.1), q2.2)
set_option maxHeartbeats 4000000 in
set_option maxRecDepth 100000 in
theorem b_X11_heldHolds (e : Nat) (hd : 4 ≤ e) (v1 : Int32) (v2 : Int32) (m : ej_M) {x : (Int32 × ej_M)} {res : Option Value × ej_H} {K : (Int32 × ej_M) → Prop} (hf : f_X11_heldHolds v1 v2 m = some x) (hK : K x) (h0 : ∀ q : (Int32 × ej_M), K q → res = (some (Value.int q.1), (ej_sh, q.2))) : ej_Z cX11_heldHolds 3 (some .int) RX11 "heldHolds" (e + 1) 0 [(0, .ref 41), (1, .int v1), (2, .int v2)] [] (ej_sh, m) res := by
  unfold f_X11_heldHolds at hf
  refine z_aload_n (pc := 0) (i := 0) (j := 0) dX11_heldHolds_0 rfl rfl ?_
  refine z_bipush (pc := 1) dX11_heldHolds_1 kb_30 ?_
  obtain ⟨q1, hq1, hf⟩ := Option.bind_eq_some_iff.mp hf
  refine z_oVv (pc := 3) (as := [.int 30]) (rest := []) dX11_heldHolds_3 lm_RX11_344 mf_X11_ran mi_X11_ran mv_X11_ran rc_41 rfl rfl (Nat.le_of_ble_eq_true rfl) (c_X11_ran e (by omega) 30 m hq1) ?_
  refine z_aload_n (pc := 6) (i := 0) (j := 0) dX11_heldHolds_6 rfl rfl ?_
  refine z_iload_n (pc := 7) (i := 1) (j := 1) dX11_heldHolds_7 rfl rfl ?_
  refine z_iload_n (pc := 8) (i := 2) (j := 2) dX11_heldHolds_8 rfl rfl ?_
  obtain ⟨q2, hq2, hf⟩ := Option.bind_eq_some_iff.mp hf
  refine z_oVi (pc := 9) (as := [.int v1, .int v2]) (rest := []) dX11_heldHolds_9 lm_RX11_359 mf_X11_plainHolds mi_X11_plainHolds mv_X11_plainHolds rc_41 rfl rfl (Nat.le_of_ble_eq_true rfl) (c_X11_plainHolds e (by omega) v1 v2 q1.2 hq2) ?_
  refine z_ineg (pc := 12) dX11_heldHolds_12 ?_
  obtain rfl := Option.some.inj hf
  rw [h0 _ hK]
  exact z_iret dX11_heldHolds_13 rfl rfl
set_option maxHeartbeats 4000000 in
set_option maxRecDepth 100000 in
theorem c_X11_heldHolds (d : Nat) (hd : 5 ≤ d) (v1 : Int32) (v2 : Int32) (m : ej_M) {q : (Int32 × ej_M)} (hf : f_X11_heldHolds v1 v2 m = some q) : ej_Ct yX11_heldHolds cX11_heldHolds 3 (some .int) d [.ref 41, .int v1, .int v2] (ej_sh, m) ((some (Value.int q.1), (ej_sh, q.2)) : Option Value × ej_H) := by
  obtain ⟨e, rfl⟩ : ∃ e, d = e + 1 := ⟨d - 1, by omega⟩
  exact z_met (by decide +kernel) (Nat.le_of_ble_eq_true rfl) (b_X11_heldHolds e (by omega) v1 v2 m (K := fun z => ((some (Value.int q.1), (ej_sh, q.2)) : Option Value × ej_H) = (some (Value.int z.1), (ej_sh, z.2))) hf rfl (fun _ h => h))
def f_X11_plainSets (v1 : Int32) (v2 : Int32) (m : ej_M) : Option (Int32 × ej_M) :=
  (f_X11_ran 11 m).bind fun q1 =>
  some ((v2 ^^^ v1), q1.2)
set_option maxHeartbeats 4000000 in
set_option maxRecDepth 100000 in
theorem b_X11_plainSets (e : Nat) (hd : 0 ≤ e) (v1 : Int32) (v2 : Int32) (m : ej_M) {x : (Int32 × ej_M)} {res : Option Value × ej_H} {K : (Int32 × ej_M) → Prop} (hf : f_X11_plainSets v1 v2 m = some x) (hK : K x) (h0 : ∀ q : (Int32 × ej_M), K q → res = (some (Value.int q.1), (ej_sh, q.2))) : ej_Z cX11_plainSets 3 (some .int) RX11 "plainSets" (e + 1) 0 [(0, .ref 41), (1, .int v1), (2, .int v2)] [] (ej_sh, m) res := by
  unfold f_X11_plainSets at hf
  refine z_aload_n (pc := 0) (i := 0) (j := 0) dX11_plainSets_0 rfl rfl ?_
  refine z_bipush (pc := 1) dX11_plainSets_1 kb_11 ?_
  obtain ⟨q1, hq1, hf⟩ := Option.bind_eq_some_iff.mp hf
  refine z_oVv (pc := 3) (as := [.int 11]) (rest := []) dX11_plainSets_3 lm_RX11_344 mf_X11_ran mi_X11_ran mv_X11_ran rc_41 rfl rfl (Nat.le_of_ble_eq_true rfl) (c_X11_ran e (by omega) 11 m hq1) ?_
  refine z_iload_n (pc := 6) (i := 2) (j := 2) dX11_plainSets_6 rfl rfl ?_
  refine z_iload_n (pc := 7) (i := 1) (j := 1) dX11_plainSets_7 rfl rfl ?_
  refine z_ixor (pc := 8) dX11_plainSets_8 ?_
  obtain rfl := Option.some.inj hf
  rw [h0 _ hK]
  exact z_iret dX11_plainSets_9 rfl rfl
set_option maxHeartbeats 4000000 in
set_option maxRecDepth 100000 in
theorem c_X11_plainSets (d : Nat) (hd : 1 ≤ d) (v1 : Int32) (v2 : Int32) (m : ej_M) {q : (Int32 × ej_M)} (hf : f_X11_plainSets v1 v2 m = some q) : ej_Ct yX11_plainSets cX11_plainSets 3 (some .int) d [.ref 41, .int v1, .int v2] (ej_sh, m) ((some (Value.int q.1), (ej_sh, q.2)) : Option Value × ej_H) := by
  obtain ⟨e, rfl⟩ : ∃ e, d = e + 1 := ⟨d - 1, by omega⟩
  exact z_met (by decide +kernel) (Nat.le_of_ble_eq_true rfl) (b_X11_plainSets e (by omega) v1 v2 m (K := fun z => ((some (Value.int q.1), (ej_sh, q.2)) : Option Value × ej_H) = (some (Value.int z.1), (ej_sh, z.2))) hf rfl (fun _ h => h))
def f_X11_holdingSets (v1 : Int32) (v2 : Int32) (m : ej_M) : Option (Int32 × ej_M) :=
  (f_X11_ran 40 m).bind fun q1 =>
  (f_X11_plainSets v1 v2 q1.2).bind fun q2 =>
  some ((q2.1 * 3), q2.2)
set_option maxHeartbeats 4000000 in
set_option maxRecDepth 100000 in
theorem b_X11_holdingSets (e : Nat) (hd : 1 ≤ e) (v1 : Int32) (v2 : Int32) (m : ej_M) {x : (Int32 × ej_M)} {res : Option Value × ej_H} {K : (Int32 × ej_M) → Prop} (hf : f_X11_holdingSets v1 v2 m = some x) (hK : K x) (h0 : ∀ q : (Int32 × ej_M), K q → res = (some (Value.int q.1), (ej_sh, q.2))) : ej_Z cX11_holdingSets 3 (some .int) RX11 "holdingSets" (e + 1) 0 [(0, .ref 41), (1, .int v1), (2, .int v2)] [] (ej_sh, m) res := by
  unfold f_X11_holdingSets at hf
  refine z_aload_n (pc := 0) (i := 0) (j := 0) dX11_holdingSets_0 rfl rfl ?_
  refine z_bipush (pc := 1) dX11_holdingSets_1 kb_40 ?_
  obtain ⟨q1, hq1, hf⟩ := Option.bind_eq_some_iff.mp hf
  refine z_oVv (pc := 3) (as := [.int 40]) (rest := []) dX11_holdingSets_3 lm_RX11_344 mf_X11_ran mi_X11_ran mv_X11_ran rc_41 rfl rfl (Nat.le_of_ble_eq_true rfl) (c_X11_ran e (by omega) 40 m hq1) ?_
  refine z_aload_n (pc := 6) (i := 0) (j := 0) dX11_holdingSets_6 rfl rfl ?_
  refine z_iload_n (pc := 7) (i := 1) (j := 1) dX11_holdingSets_7 rfl rfl ?_
  refine z_iload_n (pc := 8) (i := 2) (j := 2) dX11_holdingSets_8 rfl rfl ?_
  obtain ⟨q2, hq2, hf⟩ := Option.bind_eq_some_iff.mp hf
  refine z_oVi (pc := 9) (as := [.int v1, .int v2]) (rest := []) dX11_holdingSets_9 lm_RX11_368 mf_X11_plainSets mi_X11_plainSets mv_X11_plainSets rc_41 rfl rfl (Nat.le_of_ble_eq_true rfl) (c_X11_plainSets e (by omega) v1 v2 q1.2 hq2) ?_
  refine z_iconst (pc := 12) dX11_holdingSets_12 ki_3 ?_
  refine z_imul (pc := 13) dX11_holdingSets_13 ?_
  obtain rfl := Option.some.inj hf
  rw [h0 _ hK]
  exact z_iret dX11_holdingSets_14 rfl rfl
set_option maxHeartbeats 4000000 in
set_option maxRecDepth 100000 in
theorem c_X11_holdingSets (d : Nat) (hd : 2 ≤ d) (v1 : Int32) (v2 : Int32) (m : ej_M) {q : (Int32 × ej_M)} (hf : f_X11_holdingSets v1 v2 m = some q) : ej_Ct yX11_holdingSets cX11_holdingSets 3 (some .int) d [.ref 41, .int v1, .int v2] (ej_sh, m) ((some (Value.int q.1), (ej_sh, q.2)) : Option Value × ej_H) := by
  obtain ⟨e, rfl⟩ : ∃ e, d = e + 1 := ⟨d - 1, by omega⟩
  exact z_met (by decide +kernel) (Nat.le_of_ble_eq_true rfl) (b_X11_holdingSets e (by omega) v1 v2 m (K := fun z => ((some (Value.int q.1), (ej_sh, q.2)) : Option Value × ej_H) = (some (Value.int z.1), (ej_sh, z.2))) hf rfl (fun _ h => h))
