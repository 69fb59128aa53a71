def f_X11_changes_B121 (v1 : Int32) (v2 : Int32) (v3 : Int32) (v4 : Int32) (m : ej_M) : Option (Int32 × ej_M) :=
  (oj_st 0 m 44 (m.1 41 8) v1).bind fun m1 =>
  (oj_st 0 m1 45 (m1.1 41 8) v2).bind fun m2 =>
  (oj_st 0 m2 46 (m2.1 41 8) v4).bind fun m3 =>
  (oj_st 0 m3 47 (m3.1 41 8) v3).bind fun m4 =>
  (oj_pf m4 41 8 ((m4.1 41 8) + 1)).bind fun m5 =>
  (f_X11_lays v1 v2 v3 m5).bind fun q6 =>
  some (v4, q6.2)
set_option maxHeartbeats 4000000 in
set_option maxRecDepth 100000 in
theorem b_X11_changes_B121 (e : Nat) (hd : 0 ≤ e) (v1 : Int32) (v2 : Int32) (v3 : Int32) (v4 : Int32) (m : ej_M) {x : (Int32 × ej_M)} {res : Option Value × ej_H} {K : (Int32 × ej_M) → Prop} (hf : f_X11_changes_B121 v1 v2 v3 v4 m = some x) (hK : K x) (h0 : ∀ q : (Int32 × ej_M), K q → res = (some (Value.int q.1), (ej_sh, q.2))) : ej_Z cX11_changes 6 (some .int) RX11 "changes" (e + 1) 121 [(0, .ref 41), (1, .int v1), (2, .int v2), (3, .int v3), (4, .int v4)] [] (ej_sh, m) res := by
  unfold f_X11_changes_B121 at hf
  refine z_aload_n (pc := 121) (i := 0) (j := 0) dX11_changes_121 rfl rfl ?_
  refine z_ogetR (pc := 122) dX11_changes_122 lf_RX11_16 sh_41 rfl rfl rfl ?_
  refine z_aload_n (pc := 125) (i := 0) (j := 0) dX11_changes_125 rfl rfl ?_
  refine z_ogetI (pc := 126) dX11_changes_126 lf_RX11_129 sh_41 rfl rfl ?_
  refine z_iload_n (pc := 129) (i := 1) (j := 1) dX11_changes_129 rfl rfl ?_
  obtain ⟨m1, hm1, hf⟩ := Option.bind_eq_some_iff.mp hf
  refine z_oiast (pc := 130) dX11_changes_130 hm1 ?_
  refine z_aload_n (pc := 131) (i := 0) (j := 0) dX11_changes_131 rfl rfl ?_
  refine z_ogetR (pc := 132) dX11_changes_132 lf_RX11_19 sh_41 rfl rfl rfl ?_
  refine z_aload_n (pc := 135) (i := 0) (j := 0) dX11_changes_135 rfl rfl ?_
  refine z_ogetI (pc := 136) dX11_changes_136 lf_RX11_129 sh_41 rfl rfl ?_
  refine z_iload_n (pc := 139) (i := 2) (j := 2) dX11_changes_139 rfl rfl ?_
  obtain ⟨m2, hm2, hf⟩ := Option.bind_eq_some_iff.mp hf
  refine z_oiast (pc := 140) dX11_changes_140 hm2 ?_
  refine z_aload_n (pc := 141) (i := 0) (j := 0) dX11_changes_141 rfl rfl ?_
  refine z_ogetR (pc := 142) dX11_changes_142 lf_RX11_22 sh_41 rfl rfl rfl ?_
  refine z_aload_n (pc := 145) (i := 0) (j := 0) dX11_changes_145 rfl rfl ?_
  refine z_ogetI (pc := 146) dX11_changes_146 lf_RX11_129 sh_41 rfl rfl ?_
  refine z_iload (pc := 149) (i := 4) (j := 4) dX11_changes_149 rfl ?_
  obtain ⟨m3, hm3, hf⟩ := Option.bind_eq_some_iff.mp hf
  refine z_oiast (pc := 151) dX11_changes_151 hm3 ?_
  refine z_aload_n (pc := 152) (i := 0) (j := 0) dX11_changes_152 rfl rfl ?_
  refine z_ogetR (pc := 153) dX11_changes_153 lf_RX11_25 sh_41 rfl rfl rfl ?_
  refine z_aload_n (pc := 156) (i := 0) (j := 0) dX11_changes_156 rfl rfl ?_
  refine z_ogetI (pc := 157) dX11_changes_157 lf_RX11_129 sh_41 rfl rfl ?_
  refine z_iload_n (pc := 160) (i := 3) (j := 3) dX11_changes_160 rfl rfl ?_
  obtain ⟨m4, hm4, hf⟩ := Option.bind_eq_some_iff.mp hf
  refine z_oiast (pc := 161) dX11_changes_161 hm4 ?_
  refine z_aload_n (pc := 162) (i := 0) (j := 0) dX11_changes_162 rfl rfl ?_
  refine z_dup (pc := 163) dX11_changes_163 rfl ?_
  refine z_ogetI (pc := 164) dX11_changes_164 lf_RX11_129 sh_41 rfl rfl ?_
  refine z_iconst (pc := 167) dX11_changes_167 ki_1 ?_
  refine z_iadd (pc := 168) dX11_changes_168 ?_
  obtain ⟨m5, hm5, hf⟩ := Option.bind_eq_some_iff.mp hf
  refine z_oputI (pc := 169) dX11_changes_169 lf_RX11_129 sh_41 rfl hm5 ?_
  refine z_aload_n (pc := 172) (i := 0) (j := 0) dX11_changes_172 rfl rfl ?_
  refine z_iload_n (pc := 173) (i := 1) (j := 1) dX11_changes_173 rfl rfl ?_
  refine z_iload_n (pc := 174) (i := 2) (j := 2) dX11_changes_174 rfl rfl ?_
  refine z_iload_n (pc := 175) (i := 3) (j := 3) dX11_changes_175 rfl rfl ?_
  obtain ⟨q6, hq6, hf⟩ := Option.bind_eq_some_iff.mp hf
  refine z_oVv (pc := 176) (as := [.int v1, .int v2, .int v3]) (rest := []) dX11_changes_176 lm_RX11_132 mf_X11_lays mi_X11_lays mv_X11_lays rc_41 rfl rfl (Nat.le_of_ble_eq_true rfl) (c_X11_lays e (by omega) v1 v2 v3 m5 hq6) ?_
  refine z_iload (pc := 179) (i := 4) (j := 4) dX11_changes_179 rfl ?_
  obtain rfl := Option.some.inj hf
  rw [h0 _ hK]
  exact z_iret dX11_changes_181 rfl rfl
def f_X11_changes_L34b (v1 : Int32) (v2 : Int32) (v3 : Int32) (v4 : Int32) (v5 : Int32) (m : ej_M) : Option ((Int32 × ej_M) ⊕ (Int32 × ej_M)) :=
  if 40 ≤ v5 then
    (oj_pf m 41 8 ((m.1 41 8) - 1)).bind fun m1 =>
    (f_X11_changes_B121 v1 v2 v3 v4 m1).map fun y => (Sum.inr y)
  else
    (oj_ld 0 m 44 v5).bind fun w2 =>
    (oj_st 0 m 44 (v5 - 1) w2).bind fun m3 =>
    (oj_ld 0 m3 45 v5).bind fun w4 =>
    (oj_st 0 m3 45 (v5 - 1) w4).bind fun m5 =>
    (oj_ld 0 m5 46 v5).bind fun w6 =>
    (oj_st 0 m5 46 (v5 - 1) w6).bind fun m7 =>
    (oj_ld 0 m7 47 v5).bind fun w8 =>
    (oj_st 0 m7 47 (v5 - 1) w8).bind fun m9 =>
    some (Sum.inl ((v5 + 1), m9))
set_option maxHeartbeats 4000000 in
set_option maxRecDepth 100000 in
theorem b_X11_changes_L34b (e : Nat) (hd : 0 ≤ e) (v1 : Int32) (v2 : Int32) (v3 : Int32) (v4 : Int32) (v5 : Int32) (m : ej_M) {x : ((Int32 × ej_M) ⊕ (Int32 × ej_M))} {res : Option Value × ej_H} {K : ((Int32 × ej_M) ⊕ (Int32 × ej_M)) → Prop} (hf : f_X11_changes_L34b v1 v2 v3 v4 v5 m = some x) (hK : K x) (h1 : ∀ q : (Int32 × ej_M), K (Sum.inl q) → ej_Z cX11_changes 6 (some .int) RX11 "changes" (e + 1) 34 [(0, .ref 41), (1, .int v1), (2, .int v2), (3, .int v3), (4, .int v4), (5, .int q.1)] [] (ej_sh, q.2) res) (h0 : ∀ q : (Int32 × ej_M), K (Sum.inr q) → res = (some (Value.int q.1), (ej_sh, q.2))) : ej_Z cX11_changes 6 (some .int) RX11 "changes" (e + 1) 34 [(0, .ref 41), (1, .int v1), (2, .int v2), (3, .int v3), (4, .int v4), (5, .int v5)] [] (ej_sh, m) res := by
  unfold f_X11_changes_L34b at hf
  refine z_iload (pc := 34) (i := 5) (j := 5) dX11_changes_34 rfl ?_
  refine z_bipush (pc := 36) dX11_changes_36 kb_40 ?_
  refine z_icmp_ge (pc := 38) (tgt := 111) dX11_changes_38 (by decide) (fun hc => ?_) (fun hc => ?_)
  · rw [if_pos hc] at hf
    refine z_aload_n (pc := 111) (i := 0) (j := 0) dX11_changes_111 rfl rfl ?_
    refine z_dup (pc := 112) dX11_changes_112 rfl ?_
    refine z_ogetI (pc := 113) dX11_changes_113 lf_RX11_129 sh_41 rfl rfl ?_
    refine z_iconst (pc := 116) dX11_changes_116 ki_1 ?_
    refine z_isub (pc := 117) dX11_changes_117 ?_
    obtain ⟨m1, hm1, hf⟩ := Option.bind_eq_some_iff.mp hf
    refine z_oputI (pc := 118) dX11_changes_118 lf_RX11_129 sh_41 rfl hm1 ?_
    obtain ⟨y, hy, hxy⟩ := Option.map_eq_some_iff.mp hf
    subst hxy
    exact z_pick [0, 1, 2, 3, 4] rfl (b_X11_changes_B121 e hd v1 v2 v3 v4 m1 (K := fun y => K (Sum.inr y)) hy hK  h0)
  · rw [if_neg hc] at hf
    refine z_aload_n (pc := 41) (i := 0) (j := 0) dX11_changes_41 rfl rfl ?_
    refine z_ogetR (pc := 42) dX11_changes_42 lf_RX11_16 sh_41 rfl rfl rfl ?_
    refine z_iload (pc := 45) (i := 5) (j := 5) dX11_changes_45 rfl ?_
    refine z_iconst (pc := 47) dX11_changes_47 ki_1 ?_
    refine z_isub (pc := 48) dX11_changes_48 ?_
    refine z_aload_n (pc := 49) (i := 0) (j := 0) dX11_changes_49 rfl rfl ?_
    refine z_ogetR (pc := 50) dX11_changes_50 lf_RX11_16 sh_41 rfl rfl rfl ?_
    refine z_iload (pc := 53) (i := 5) (j := 5) dX11_changes_53 rfl ?_
    obtain ⟨w2, hw2, hf⟩ := Option.bind_eq_some_iff.mp hf
    refine z_oiald (pc := 55) dX11_changes_55 hw2 ?_
    obtain ⟨m3, hm3, hf⟩ := Option.bind_eq_some_iff.mp hf
    refine z_oiast (pc := 56) dX11_changes_56 hm3 ?_
    refine z_aload_n (pc := 57) (i := 0) (j := 0) dX11_changes_57 rfl rfl ?_
    refine z_ogetR (pc := 58) dX11_changes_58 lf_RX11_19 sh_41 rfl rfl rfl ?_
    refine z_iload (pc := 61) (i := 5) (j := 5) dX11_changes_61 rfl ?_
    refine z_iconst (pc := 63) dX11_changes_63 ki_1 ?_
    refine z_isub (pc := 64) dX11_changes_64 ?_
    refine z_aload_n (pc := 65) (i := 0) (j := 0) dX11_changes_65 rfl rfl ?_
    refine z_ogetR (pc := 66) dX11_changes_66 lf_RX11_19 sh_41 rfl rfl rfl ?_
    refine z_iload (pc := 69) (i := 5) (j := 5) dX11_changes_69 rfl ?_
    obtain ⟨w4, hw4, hf⟩ := Option.bind_eq_some_iff.mp hf
    refine z_oiald (pc := 71) dX11_changes_71 hw4 ?_
    obtain ⟨m5, hm5, hf⟩ := Option.bind_eq_some_iff.mp hf
    refine z_oiast (pc := 72) dX11_changes_72 hm5 ?_
    refine z_aload_n (pc := 73) (i := 0) (j := 0) dX11_changes_73 rfl rfl ?_
    refine z_ogetR (pc := 74) dX11_changes_74 lf_RX11_22 sh_41 rfl rfl rfl ?_
    refine z_iload (pc := 77) (i := 5) (j := 5) dX11_changes_77 rfl ?_
    refine z_iconst (pc := 79) dX11_changes_79 ki_1 ?_
    refine z_isub (pc := 80) dX11_changes_80 ?_
    refine z_aload_n (pc := 81) (i := 0) (j := 0) dX11_changes_81 rfl rfl ?_
    refine z_ogetR (pc := 82) dX11_changes_82 lf_RX11_22 sh_41 rfl rfl rfl ?_
    refine z_iload (pc := 85) (i := 5) (j := 5) dX11_changes_85 rfl ?_
    obtain ⟨w6, hw6, hf⟩ := Option.bind_eq_some_iff.mp hf
    refine z_oiald (pc := 87) dX11_changes_87 hw6 ?_
    obtain ⟨m7, hm7, hf⟩ := Option.bind_eq_some_iff.mp hf
    refine z_oiast (pc := 88) dX11_changes_88 hm7 ?_
    refine z_aload_n (pc := 89) (i := 0) (j := 0) dX11_changes_89 rfl rfl ?_
    refine z_ogetR (pc := 90) dX11_changes_90 lf_RX11_25 sh_41 rfl rfl rfl ?_
    refine z_iload (pc := 93) (i := 5) (j := 5) dX11_changes_93 rfl ?_
    refine z_iconst (pc := 95) dX11_changes_95 ki_1 ?_
    refine z_isub (pc := 96) dX11_changes_96 ?_
    refine z_aload_n (pc := 97) (i := 0) (j := 0) dX11_changes_97 rfl rfl ?_
    refine z_ogetR (pc := 98) dX11_changes_98 lf_RX11_25 sh_41 rfl rfl rfl ?_
    refine z_iload (pc := 101) (i := 5) (j := 5) dX11_changes_101 rfl ?_
    obtain ⟨w8, hw8, hf⟩ := Option.bind_eq_some_iff.mp hf
    refine z_oiald (pc := 103) dX11_changes_103 hw8 ?_
    obtain ⟨m9, hm9, hf⟩ := Option.bind_eq_some_iff.mp hf
    refine z_oiast (pc := 104) dX11_changes_104 hm9 ?_
    refine z_iinc (pc := 105) (j := 5) (ls' := [(5, .int (v5 + 1)), (0, .ref 41), (1, .int v1), (2, .int v2), (3, .int v3), (4, .int v4)]) dX11_changes_105 rfl ki_1 (Nat.le_of_ble_eq_true rfl) rfl ?_
    refine z_goto (pc := 108) (tgt := 34) dX11_changes_108 (by decide) ?_
    obtain rfl := Option.some.inj hf
    exact z_pick (ls' := [(0, .ref 41), (1, .int v1), (2, .int v2), (3, .int v3), (4, .int v4), (5, .int (v5 + 1))]) [1, 2, 3, 4, 5, 0] rfl (h1 ((v5 + 1), m9) hK)
def f_X11_changes_L34 (v1 : Int32) (v2 : Int32) (v3 : Int32) (v4 : Int32) (v5 : Int32) (m : ej_M) : Option (Int32 × ej_M) := oj_loop (fun q : (Int32 × ej_M) => f_X11_changes_L34b v1 v2 v3 v4 q.1 q.2) oj_FU (v5, m)
set_option maxHeartbeats 4000000 in
set_option maxRecDepth 100000 in
theorem b_X11_changes_L34 (e : Nat) (hd : 0 ≤ e) (v1 : Int32) (v2 : Int32) (v3 : Int32) (v4 : Int32) (v5 : Int32) (m : ej_M) {x : (Int32 × ej_M)} {res : Option Value × ej_H} {K : (Int32 × ej_M) → Prop} (hf : f_X11_changes_L34 v1 v2 v3 v4 v5 m = some x) (hK : K x) (h0 : ∀ q : (Int32 × ej_M), K q → res = (some (Value.int q.1), (ej_sh, q.2))) : ej_Z cX11_changes 6 (some .int) RX11 "changes" (e + 1) 34 [(0, .ref 41), (1, .int v1), (2, .int v2), (3, .int v3), (4, .int v4), (5, .int v5)] [] (ej_sh, m) res :=
  oj_loop_Z (body := fun q : (Int32 × ej_M) => f_X11_changes_L34b v1 v2 v3 v4 q.1 q.2) (P := fun q : (Int32 × ej_M) => ej_Z cX11_changes 6 (some .int) RX11 "changes" (e + 1) 34 [(0, .ref 41), (1, .int v1), (2, .int v2), (3, .int v3), (4, .int v4), (5, .int q.1)] [] (ej_sh, q.2) res) (K := K) (fun s x hb hl hr => b_X11_changes_L34b e hd v1 v2 v3 v4  s.1 s.2 (K := fun x => (∀ s' : (Int32 × ej_M), x = Sum.inl s' → ej_Z cX11_changes 6 (some .int) RX11 "changes" (e + 1) 34 [(0, .ref 41), (1, .int v1), (2, .int v2), (3, .int v3), (4, .int v4), (5, .int s'.1)] [] (ej_sh, s'.2) res) ∧ ∀ e, x = Sum.inr e → K e) hb ⟨hl, hr⟩ (fun q hq => hq.1 q rfl) (fun q hq => h0 q (hq.2 _ rfl))) oj_FU (v5, m) x hf hK
def f_X11_changes (v1 : Int32) (v2 : Int32) (v3 : Int32) (m : ej_M) : Option (Int32 × ej_M) :=
  (f_X11_valueAt v1 v2 m).bind fun q1 =>
  if q1.1 = v3 then
    some (q1.1, q1.2)
  else
    (oj_pf q1.2 41 9 0).bind fun m2 =>
    if (m2.1 41 8) = 40 then
      f_X11_changes_L34 v1 v2 v3 q1.1 1 m2
    else
      f_X11_changes_B121 v1 v2 v3 q1.1 m2
set_option maxHeartbeats 4000000 in
set_option maxRecDepth 100000 in
theorem b_X11_changes (e : Nat) (hd : 0 ≤ e) (v1 : Int32) (v2 : Int32) (v3 : Int32) (m : ej_M) {x : (Int32 × ej_M)} {res : Option Value × ej_H} {K : (Int32 × ej_M) → Prop} (hf : f_X11_changes v1 v2 v3 m = some x) (hK : K x) (h0 : ∀ q : (Int32 × ej_M), K q → res = (some (Value.int q.1), (ej_sh, q.2))) : ej_Z cX11_changes 6 (some .int) RX11 "changes" (e + 1) 0 [(0, .ref 41), (1, .int v1), (2, .int v2), (3, .int v3)] [] (ej_sh, m) res := by
  unfold f_X11_changes at hf
  refine z_aload_n (pc := 0) (i := 0) (j := 0) dX11_changes_0 rfl rfl ?_
  refine z_iload_n (pc := 1) (i := 1) (j := 1) dX11_changes_1 rfl rfl ?_
  refine z_iload_n (pc := 2) (i := 2) (j := 2) dX11_changes_2 rfl rfl ?_
  obtain ⟨q1, hq1, hf⟩ := Option.bind_eq_some_iff.mp hf
  refine z_oVi (pc := 3) (as := [.int v1, .int v2]) (rest := []) dX11_changes_3 lm_RX11_122 mf_X11_valueAt mi_X11_valueAt mv_X11_valueAt rc_41 rfl rfl (Nat.le_of_ble_eq_true rfl) (c_X11_valueAt e (by omega) v1 v2 m hq1) ?_
  refine z_istore (pc := 6) (i := 4) (ls' := [(4, .int q1.1), (0, .ref 41), (1, .int v1), (2, .int v2), (3, .int v3)]) dX11_changes_6 (Nat.le_of_ble_eq_true rfl) rfl ?_
  refine z_iload (pc := 8) (i := 4) (j := 0) dX11_changes_8 rfl ?_
  refine z_iload_n (pc := 10) (i := 3) (j := 4) dX11_changes_10 rfl rfl ?_
  refine z_icmp_ne (pc := 11) (tgt := 17) dX11_changes_11 (by decide) (fun hc => ?_) (fun hc => ?_)
  · rw [if_neg hc] at hf
    refine z_aload_n (pc := 17) (i := 0) (j := 1) dX11_changes_17 rfl rfl ?_
    refine z_iconst (pc := 18) dX11_changes_18 ki_0 ?_
    obtain ⟨m2, hm2, hf⟩ := Option.bind_eq_some_iff.mp hf
    refine z_oputI (pc := 19) dX11_changes_19 lf_RX11_126 sh_41 rfl hm2 ?_
    refine z_aload_n (pc := 22) (i := 0) (j := 1) dX11_changes_22 rfl rfl ?_
    refine z_ogetI (pc := 23) dX11_changes_23 lf_RX11_129 sh_41 rfl rfl ?_
    refine z_bipush (pc := 26) dX11_changes_26 kb_40 ?_
    refine z_icmp_ne (pc := 28) (tgt := 121) dX11_changes_28 (by decide) (fun hc => ?_) (fun hc => ?_)
    · rw [if_neg hc] at hf
      exact z_pick [1, 2, 3, 4, 0] rfl (b_X11_changes_B121 e hd v1 v2 v3 q1.1 m2 (K := K) hf hK  h0)
    · rw [if_pos hc] at hf
      refine z_iconst (pc := 31) dX11_changes_31 ki_1 ?_
      refine z_istore (pc := 32) (i := 5) (ls' := [(5, .int 1), (4, .int q1.1), (0, .ref 41), (1, .int v1), (2, .int v2), (3, .int v3)]) dX11_changes_32 (Nat.le_of_ble_eq_true rfl) rfl ?_
      exact z_pick [2, 3, 4, 5, 1, 0] rfl (b_X11_changes_L34 e hd v1 v2 v3 q1.1 1 m2 (K := K) hf hK  h0)
  · rw [if_pos hc] at hf
    refine z_iload (pc := 14) (i := 4) (j := 0) dX11_changes_14 rfl ?_
    obtain rfl := Option.some.inj hf
    rw [h0 _ hK]
    exact z_iret dX11_changes_16 rfl rfl
set_option maxHeartbeats 4000000 in
set_option maxRecDepth 100000 in
theorem c_X11_changes (d : Nat) (hd : 1 ≤ d) (v1 : Int32) (v2 : Int32) (v3 : Int32) (m : ej_M) {q : (Int32 × ej_M)} (hf : f_X11_changes v1 v2 v3 m = some q) : ej_Ct yX11_changes cX11_changes 6 (some .int) d [.ref 41, .int v1, .int v2, .int v3] (ej_sh, m) ((some (Value.int q.1), (ej_sh, q.2)) : Option Value × ej_H) := by
  obtain ⟨e, rfl⟩ : ∃ e, d = e + 1 := ⟨d - 1, by omega⟩
  exact z_met (by decide +kernel) (Nat.le_of_ble_eq_true rfl) (b_X11_changes e (by omega) v1 v2 v3 m (K := fun z => ((some (Value.int q.1), (ej_sh, q.2)) : Option Value × ej_H) = (some (Value.int z.1), (ej_sh, z.2))) hf rfl (fun _ h => h))
def f_X11_isStone (v1 : Int32) (m : ej_M) : Option (Int32 × ej_M) :=
  (f_X11_in v1 0 ((m.1 41 1) - 1) m).bind fun q1 =>
  oj_rz q1.1 q1.2
set_option maxHeartbeats 4000000 in
set_option maxRecDepth 100000 in
theorem b_X11_isStone (e : Nat) (hd : 0 ≤ e) (v1 : Int32) (m : ej_M) {x : (Int32 × ej_M)} {res : Option Value × ej_H} {K : (Int32 × ej_M) → Prop} (hf : f_X11_isStone v1 m = some x) (hK : K x) (h0 : ∀ q : (Int32 × ej_M), K q → res = (some (Value.int q.1), (ej_sh, q.2))) : ej_Z cX11_isStone 2 (some .boolean) RX11 "isStone" (e + 1) 0 [(0, .ref 41), (1, .int v1)] [] (ej_sh, m) res := by
  unfold f_X11_isStone at hf
  refine z_iload_n (pc := 0) (i := 1) (j := 1) dX11_isStone_0 rfl rfl ?_
  refine z_iconst (pc := 1) dX11_isStone_1 ki_0 ?_
  refine z_aload_n (pc := 2) (i := 0) (j := 0) dX11_isStone_2 rfl rfl ?_
  refine z_ogetI (pc := 3) dX11_isStone_3 lf_RX11_101 sh_41 rfl rfl ?_
  refine z_iconst (pc := 6) dX11_isStone_6 ki_1 ?_
  refine z_isub (pc := 7) dX11_isStone_7 ?_
  obtain ⟨q1, hq1, hf⟩ := Option.bind_eq_some_iff.mp hf
  refine z_oSi (pc := 8) (as := [.int v1, .int 0, .int ((m.1 41 1) - 1)]) (rest := []) dX11_isStone_8 lm_RX11_104 mf_X11_in ms_X11_in rfl rfl (Nat.le_of_ble_eq_true rfl) (c_X11_in e (by omega) v1 0 ((m.1 41 1) - 1) m hq1) ?_
  rw [h0 _ hK]
  exact z_oretz dX11_isStone_11 rfl hf
set_option maxHeartbeats 4000000 in
set_option maxRecDepth 100000 in
theorem c_X11_isStone (d : Nat) (hd : 1 ≤ d) (v1 : Int32) (m : ej_M) {q : (Int32 × ej_M)} (hf : f_X11_isStone v1 m = some q) : ej_Ct yX11_isStone cX11_isStone 2 (some .boolean) d [.ref 41, .int v1] (ej_sh, m) ((some (Value.int q.1), (ej_sh, q.2)) : Option Value × ej_H) := by
  obtain ⟨e, rfl⟩ : ∃ e, d = e + 1 := ⟨d - 1, by omega⟩
  exact z_met (by decide +kernel) (Nat.le_of_ble_eq_true rfl) (b_X11_isStone e (by omega) v1 m (K := fun z => ((some (Value.int q.1), (ej_sh, q.2)) : Option Value × ej_H) = (some (Value.int z.1), (ej_sh, z.2))) hf rfl (fun _ h => h))
def f_X11_mend (v1 : Int32) (v2 : Int32) (v3 : Int32) (m : ej_M) : Option (Int32 × ej_M) :=
  if v2 = 0 then
    (f_X11_isStone v1 m).bind fun q3 =>
    if q3.1 = 0 then
      some ((-1), q3.2)
    else
      (f_X11_in v3 1 99 q3.2).bind fun q4 =>
      if q4.1 = 0 then
        some ((-1), q4.2)
      else
        (f_X11_changes 0 v1 v3 q4.2).bind fun q5 =>
        some (q5.1, q5.2)
  else
    if v2 = 1 then
      if v1 = 0 then
        (f_X11_in v3 0 1 m).bind fun q1 =>
        if q1.1 = 0 then
          some ((-1), q1.2)
        else
          (f_X11_changes 1 0 v3 q1.2).bind fun q2 =>
          some (q2.1, q2.2)
      else
        some ((-1), m)
    else
      some ((-1), m)
set_option maxHeartbeats 4000000 in
set_option maxRecDepth 100000 in
theorem b_X11_mend (e : Nat) (hd : 1 ≤ e) (v1 : Int32) (v2 : Int32) (v3 : Int32) (m : ej_M) {x : (Int32 × ej_M)} {res : Option Value × ej_H} {K : (Int32 × ej_M) → Prop} (hf : f_X11_mend v1 v2 v3 m = some x) (hK : K x) (h0 : ∀ q : (Int32 × ej_M), K q → res = (some (Value.int q.1), (ej_sh, q.2))) : ej_Z cX11_mend 4 (some .int) RX11 "mend" (e + 1) 0 [(0, .ref 41), (1, .int v1), (2, .int v2), (3, .int v3)] [] (ej_sh, m) res := by
  unfold f_X11_mend at hf
  refine z_iload_n (pc := 0) (i := 2) (j := 2) dX11_mend_0 rfl rfl ?_
  refine z_if_ne (pc := 1) (tgt := 34) dX11_mend_1 (by decide) (fun hc => ?_) (fun hc => ?_)
  · rw [if_neg hc] at hf
    refine z_iload_n (pc := 34) (i := 2) (j := 2) dX11_mend_34 rfl rfl ?_
    refine z_iconst (pc := 35) dX11_mend_35 ki_1 ?_
    refine z_icmp_ne (pc := 36) (tgt := 62) dX11_mend_36 (by decide) (fun hc => ?_) (fun hc => ?_)
    · rw [if_neg hc] at hf
      refine z_iconst (pc := 62) dX11_mend_62 ki_n1 ?_
      obtain rfl := Option.some.inj hf
      rw [h0 _ hK]
      exact z_iret dX11_mend_63 rfl rfl
    · rw [if_pos hc] at hf
      refine z_iload_n (pc := 39) (i := 1) (j := 1) dX11_mend_39 rfl rfl ?_
      refine z_if_ne (pc := 40) (tgt := 62) dX11_mend_40 (by decide) (fun hc => ?_) (fun hc => ?_)
      · rw [if_neg hc] at hf
        refine z_iconst (pc := 62) dX11_mend_62 ki_n1 ?_
        obtain rfl := Option.some.inj hf
        rw [h0 _ hK]
        exact z_iret dX11_mend_63 rfl rfl
      · rw [if_pos hc] at hf
        refine z_iload_n (pc := 43) (i := 3) (j := 3) dX11_mend_43 rfl rfl ?_
        refine z_iconst (pc := 44) dX11_mend_44 ki_0 ?_
        refine z_iconst (pc := 45) dX11_mend_45 ki_1 ?_
        obtain ⟨q1, hq1, hf⟩ := Option.bind_eq_some_iff.mp hf
        refine z_oSi (pc := 46) (as := [.int v3, .int 0, .int 1]) (rest := []) dX11_mend_46 lm_RX11_104 mf_X11_in ms_X11_in rfl rfl (Nat.le_of_ble_eq_true rfl) (c_X11_in e (by omega) v3 0 1 m hq1) ?_
        refine z_if_eq (pc := 49) (tgt := 62) dX11_mend_49 (by decide) (fun hc => ?_) (fun hc => ?_)
        · rw [if_pos hc] at hf
          refine z_iconst (pc := 62) dX11_mend_62 ki_n1 ?_
          obtain rfl := Option.some.inj hf
          rw [h0 _ hK]
          exact z_iret dX11_mend_63 rfl rfl
        · rw [if_neg hc] at hf
          refine z_aload_n (pc := 52) (i := 0) (j := 0) dX11_mend_52 rfl rfl ?_
          refine z_iconst (pc := 53) dX11_mend_53 ki_1 ?_
          refine z_iconst (pc := 54) dX11_mend_54 ki_0 ?_
          refine z_iload_n (pc := 55) (i := 3) (j := 3) dX11_mend_55 rfl rfl ?_
          obtain ⟨q2, hq2, hf⟩ := Option.bind_eq_some_iff.mp hf
          refine z_oVi (pc := 56) (as := [.int 1, .int 0, .int v3]) (rest := []) dX11_mend_56 lm_RX11_139 mf_X11_changes mi_X11_changes mv_X11_changes rc_41 rfl rfl (Nat.le_of_ble_eq_true rfl) (c_X11_changes e (by omega) 1 0 v3 q1.2 hq2) ?_
          refine z_goto (pc := 59) (tgt := 63) dX11_mend_59 (by decide) ?_
          obtain rfl := Option.some.inj hf
          rw [h0 _ hK]
          exact z_iret dX11_mend_63 rfl rfl
  · rw [if_pos hc] at hf
    refine z_aload_n (pc := 4) (i := 0) (j := 0) dX11_mend_4 rfl rfl ?_
    refine z_iload_n (pc := 5) (i := 1) (j := 1) dX11_mend_5 rfl rfl ?_
    obtain ⟨q3, hq3, hf⟩ := Option.bind_eq_some_iff.mp hf
    refine z_oVi (pc := 6) (as := [.int v1]) (rest := []) dX11_mend_6 lm_RX11_136 mf_X11_isStone mi_X11_isStone mv_X11_isStone rc_41 rfl rfl (Nat.le_of_ble_eq_true rfl) (c_X11_isStone e (by omega) v1 m hq3) ?_
    refine z_if_eq (pc := 9) (tgt := 32) dX11_mend_9 (by decide) (fun hc => ?_) (fun hc => ?_)
    · rw [if_pos hc] at hf
      refine z_iconst (pc := 32) dX11_mend_32 ki_n1 ?_
      obtain rfl := Option.some.inj hf
      rw [h0 _ hK]
      exact z_iret dX11_mend_33 rfl rfl
    · rw [if_neg hc] at hf
      refine z_iload_n (pc := 12) (i := 3) (j := 3) dX11_mend_12 rfl rfl ?_
      refine z_iconst (pc := 13) dX11_mend_13 ki_1 ?_
      refine z_bipush (pc := 14) dX11_mend_14 kb_99 ?_
      obtain ⟨q4, hq4, hf⟩ := Option.bind_eq_some_iff.mp hf
      refine z_oSi (pc := 16) (as := [.int v3, .int 1, .int 99]) (rest := []) dX11_mend_16 lm_RX11_104 mf_X11_in ms_X11_in rfl rfl (Nat.le_of_ble_eq_true rfl) (c_X11_in e (by omega) v3 1 99 q3.2 hq4) ?_
      refine z_if_eq (pc := 19) (tgt := 32) dX11_mend_19 (by decide) (fun hc => ?_) (fun hc => ?_)
      · rw [if_pos hc] at hf
        refine z_iconst (pc := 32) dX11_mend_32 ki_n1 ?_
        obtain rfl := Option.some.inj hf
        rw [h0 _ hK]
        exact z_iret dX11_mend_33 rfl rfl
      · rw [if_neg hc] at hf
        refine z_aload_n (pc := 22) (i := 0) (j := 0) dX11_mend_22 rfl rfl ?_
        refine z_iconst (pc := 23) dX11_mend_23 ki_0 ?_
        refine z_iload_n (pc := 24) (i := 1) (j := 1) dX11_mend_24 rfl rfl ?_
        refine z_iload_n (pc := 25) (i := 3) (j := 3) dX11_mend_25 rfl rfl ?_
        obtain ⟨q5, hq5, hf⟩ := Option.bind_eq_some_iff.mp hf
        refine z_oVi (pc := 26) (as := [.int 0, .int v1, .int v3]) (rest := []) dX11_mend_26 lm_RX11_139 mf_X11_changes mi_X11_changes mv_X11_changes rc_41 rfl rfl (Nat.le_of_ble_eq_true rfl) (c_X11_changes e (by omega) 0 v1 v3 q4.2 hq5) ?_
        refine z_goto (pc := 29) (tgt := 33) dX11_mend_29 (by decide) ?_
        obtain rfl := Option.some.inj hf
        rw [h0 _ hK]
        exact z_iret dX11_mend_33 rfl rfl
set_option maxHeartbeats 4000000 in
set_option maxRecDepth 100000 in
theorem c_X11_mend (d : Nat) (hd : 2 ≤ d) (v1 : Int32) (v2 : Int32) (v3 : Int32) (m : ej_M) {q : (Int32 × ej_M)} (hf : f_X11_mend v1 v2 v3 m = some q) : ej_Ct yX11_mend cX11_mend 4 (some .int) d [.ref 41, .int v1, .int v2, .int v3] (ej_sh, m) ((some (Value.int q.1), (ej_sh, q.2)) : Option Value × ej_H) := by
  obtain ⟨e, rfl⟩ : ∃ e, d = e + 1 := ⟨d - 1, by omega⟩
  exact z_met (by decide +kernel) (Nat.le_of_ble_eq_true rfl) (b_X11_mend e (by omega) v1 v2 v3 m (K := fun z => ((some (Value.int q.1), (ej_sh, q.2)) : Option Value × ej_H) = (some (Value.int z.1), (ej_sh, z.2))) hf rfl (fun _ h => h))
def f_J0_coder_7d493 (v0 : Nat) (m : ej_M) : Option (Int32 × ej_M) :=
  if (1 : Int32) = 0 then
    oj_rn .byte 1 m
  else
    (oj_sc v0).bind fun w1 =>
    oj_rn .byte w1 m
set_option maxHeartbeats 4000000 in
set_option maxRecDepth 100000 in
theorem b_J0_coder_7d493 (d : Nat) (v0 : Nat) (m : ej_M) {x : (Int32 × ej_M)} {res : Option Value × ej_H} {K : (Int32 × ej_M) → Prop} (hf : f_J0_coder_7d493 v0 m = some x) (hK : K x) (h0 : ∀ q : (Int32 × ej_M), K q → res = (some (Value.int q.1), (ej_sh, q.2))) : ej_Z cJ0_coder_7d493 1 (some .byte) RJ0 "coder" d 0 [(0, .ref v0)] [] (ej_sh, m) res := by
  unfold f_J0_coder_7d493 at hf
  refine z_getsC (pc := 0) dJ0_coder_7d493_0 ls_RJ0_38 ?_
  refine z_if_eq (pc := 3) (tgt := 13) dJ0_coder_7d493_3 (by decide) (fun hc => ?_) (fun hc => ?_)
  · rw [if_pos hc] at hf
    refine z_iconst (pc := 13) dJ0_coder_7d493_13 ki_1 ?_
    rw [h0 _ hK]
    exact z_oretn dJ0_coder_7d493_14 rfl hf
  · rw [if_neg hc] at hf
    refine z_aload_n (pc := 6) (i := 0) (j := 0) dJ0_coder_7d493_6 rfl rfl ?_
    obtain ⟨w1, hw1, hf⟩ := Option.bind_eq_some_iff.mp hf
    refine z_ogetSC (pc := 7) dJ0_coder_7d493_7 ls_RJ0_15 hw1 ?_
    refine z_goto (pc := 10) (tgt := 14) dJ0_coder_7d493_10 (by decide) ?_
    rw [h0 _ hK]
    exact z_oretn dJ0_coder_7d493_14 rfl hf
set_option maxHeartbeats 4000000 in
set_option maxRecDepth 100000 in
theorem c_J0_coder_7d493 (d : Nat) (hd : 0 ≤ d) (v0 : Nat) (m : ej_M) {q : (Int32 × ej_M)} (hf : f_J0_coder_7d493 v0 m = some q) : ej_Ct yJ0_coder_7d493 cJ0_coder_7d493 1 (some .byte) d [.ref v0] (ej_sh, m) ((some (Value.int q.1), (ej_sh, q.2)) : Option Value × ej_H) := by
  exact z_met (by decide +kernel) (Nat.le_of_ble_eq_true rfl) (b_J0_coder_7d493 d v0 m (K := fun z => ((some (Value.int q.1), (ej_sh, q.2)) : Option Value × ej_H) = (some (Value.int z.1), (ej_sh, z.2))) hf rfl (fun _ h => h))
def f_J0_length_8abf5 (v0 : Nat) (m : ej_M) : Option (Int32 × ej_M) :=
  (oj_sv v0).bind fun w1 =>
  (oj_ln m w1).bind fun w2 =>
  (oj_sv v0).bind fun w3 =>
  (f_J0_coder_7d493 v0 m).bind fun q4 =>
  some ((w2 >>> (q4.1 &&& 31)), q4.2)
set_option maxHeartbeats 4000000 in
set_option maxRecDepth 100000 in
theorem b_J0_length_8abf5 (e : Nat) (hd : 0 ≤ e) (v0 : Nat) (m : ej_M) {x : (Int32 × ej_M)} {res : Option Value × ej_H} {K : (Int32 × ej_M) → Prop} (hf : f_J0_length_8abf5 v0 m = some x) (hK : K x) (h0 : ∀ q : (Int32 × ej_M), K q → res = (some (Value.int q.1), (ej_sh, q.2))) : ej_Z cJ0_length_8abf5 1 (some .int) RJ0 "length" (e + 1) 0 [(0, .ref v0)] [] (ej_sh, m) res := by
  unfold f_J0_length_8abf5 at hf
  refine z_aload_n (pc := 0) (i := 0) (j := 0) dJ0_length_8abf5_0 rfl rfl ?_
  obtain ⟨w1, hw1, hf⟩ := Option.bind_eq_some_iff.mp hf
  refine z_ogetSV (pc := 1) dJ0_length_8abf5_1 ls_RJ0_9 hw1 ?_
  obtain ⟨w2, hw2, hf⟩ := Option.bind_eq_some_iff.mp hf
  refine z_oalen (pc := 4) dJ0_length_8abf5_4 hw2 ?_
  refine z_aload_n (pc := 5) (i := 0) (j := 0) dJ0_length_8abf5_5 rfl rfl ?_
  obtain ⟨w3, hw3, hf⟩ := Option.bind_eq_some_iff.mp hf
  obtain ⟨q4, hq4, hf⟩ := Option.bind_eq_some_iff.mp hf
  refine z_oVi (pc := 6) (as := []) (rest := [.int w2]) dJ0_length_8abf5_6 lm_RJ0_335 mf_J0_coder_7d493 mi_J0_coder_7d493 mv_J0_coder_7d493 (ej_RCS hw3) rfl rfl (Nat.le_of_ble_eq_true rfl) (c_J0_coder_7d493 e (by omega) v0 m hq4) ?_
  refine z_ishr (pc := 9) dJ0_length_8abf5_9 ?_
  obtain rfl := Option.some.inj hf
  rw [h0 _ hK]
  exact z_iret dJ0_length_8abf5_10 rfl rfl
set_option maxHeartbeats 4000000 in
set_option maxRecDepth 100000 in
theorem c_J0_length_8abf5 (d : Nat) (hd : 1 ≤ d) (v0 : Nat) (m : ej_M) {q : (Int32 × ej_M)} (hf : f_J0_length_8abf5 v0 m = some q) : ej_Ct yJ0_length_8abf5 cJ0_length_8abf5 1 (some .int) d [.ref v0] (ej_sh, m) ((some (Value.int q.1), (ej_sh, q.2)) : Option Value × ej_H) := by
  obtain ⟨e, rfl⟩ : ∃ e, d = e + 1 := ⟨d - 1, by omega⟩
  exact z_met (by decide +kernel) (Nat.le_of_ble_eq_true rfl) (b_J0_length_8abf5 e (by omega) v0 m (K := fun z => ((some (Value.int q.1), (ej_sh, q.2)) : Option Value × ej_H) = (some (Value.int z.1), (ej_sh, z.2))) hf rfl (fun _ h => h))
def f_X2_alone (v0 : Int32) (v1 : Int32) (m : ej_M) : Option (Int32 × ej_M) :=
  if v0 = 126 then
    some ((-v1), m)
  else
    if v1 = 0 then
      some (1, m)
    else
      some (0, m)
set_option maxHeartbeats 4000000 in
set_option maxRecDepth 100000 in
theorem b_X2_alone (d : Nat) (v0 : Int32) (v1 : Int32) (m : ej_M) {x : (Int32 × ej_M)} {res : Option Value × ej_H} {K : (Int32 × ej_M) → Prop} (hf : f_X2_alone v0 v1 m = some x) (hK : K x) (h0 : ∀ q : (Int32 × ej_M), K q → res = (some (Value.int q.1), (ej_sh, q.2))) : ej_Z cX2_alone 2 (some .int) RX2 "alone" d 0 [(0, .int v0), (1, .int v1)] [] (ej_sh, m) res := by
  unfold f_X2_alone at hf
  refine z_iload_n (pc := 0) (i := 0) (j := 0) dX2_alone_0 rfl rfl ?_
  refine z_bipush (pc := 1) dX2_alone_1 kb_126 ?_
  refine z_icmp_ne (pc := 3) (tgt := 9) dX2_alone_3 (by decide) (fun hc => ?_) (fun hc => ?_)
  · rw [if_neg hc] at hf
    refine z_iload_n (pc := 9) (i := 1) (j := 1) dX2_alone_9 rfl rfl ?_
    refine z_if_ne (pc := 10) (tgt := 17) dX2_alone_10 (by decide) (fun hc => ?_) (fun hc => ?_)
    · rw [if_neg hc] at hf
      refine z_iconst (pc := 17) dX2_alone_17 ki_0 ?_
      obtain rfl := Option.some.inj hf
      rw [h0 _ hK]
      exact z_iret dX2_alone_18 rfl rfl
    · rw [if_pos hc] at hf
      refine z_iconst (pc := 13) dX2_alone_13 ki_1 ?_
      refine z_goto (pc := 14) (tgt := 18) dX2_alone_14 (by decide) ?_
      obtain rfl := Option.some.inj hf
      rw [h0 _ hK]
      exact z_iret dX2_alone_18 rfl rfl
  · rw [if_pos hc] at hf
    refine z_iload_n (pc := 6) (i := 1) (j := 1) dX2_alone_6 rfl rfl ?_
    refine z_ineg (pc := 7) dX2_alone_7 ?_
    obtain rfl := Option.some.inj hf
    rw [h0 _ hK]
    exact z_iret dX2_alone_8 rfl rfl
set_option maxHeartbeats 4000000 in
set_option maxRecDepth 100000 in
theorem c_X2_alone (d : Nat) (hd : 0 ≤ d) (v0 : Int32) (v1 : Int32) (m : ej_M) {q : (Int32 × ej_M)} (hf : f_X2_alone v0 v1 m = some q) : ej_Ct yX2_alone cX2_alone 2 (some .int) d [.int v0, .int v1] (ej_sh, m) ((some (Value.int q.1), (ej_sh, q.2)) : Option Value × ej_H) := by
  exact z_met (by decide +kernel) (Nat.le_of_ble_eq_true rfl) (b_X2_alone d v0 v1 m (K := fun z => ((some (Value.int q.1), (ej_sh, q.2)) : Option Value × ej_H) = (some (Value.int z.1), (ej_sh, z.2))) hf rfl (fun _ h => h))
def f_X2_joined (v0 : Int32) (v1 : Int32) (v2 : Int32) (m : ej_M) : Option (Int32 × ej_M) :=
  if v0 = 37 then
    if v2 = 0 then
      some (0, m)
    else
      (oj_rm v1 v2).bind fun w1 =>
      some (w1, m)
  else
    if v0 = 38 then
      if v1 = 0 then
        some (0, m)
      else
        if v2 = 0 then
          some (0, m)
        else
          some (1, m)
    else
      if v0 = 42 then
        some ((v1 * v2), m)
      else
        if v0 = 43 then
          some ((v1 + v2), m)
        else
          if v0 = 45 then
            some ((v1 - v2), m)
          else
            if v0 = 47 then
              if v2 = 0 then
                some (0, m)
              else
                (oj_dv v1 v2).bind fun w2 =>
                some (w2, m)
            else
              if v0 = 60 then
                if v2 ≤ v1 then
                  some (0, m)
                else
                  some (1, m)
              else
                if v0 = 61 then
                  if v1 = v2 then
                    some (1, m)
                  else
                    some (0, m)
                else
                  if v0 = 62 then
                    if v1 ≤ v2 then
                      some (0, m)
                    else
                      some (1, m)
                  else
                    if v1 = 0 then
                      if v2 = 0 then
                        some (0, m)
                      else
                        some (1, m)
                    else
                      some (1, m)
set_option maxHeartbeats 4000000 in
set_option maxRecDepth 100000 in
theorem b_X2_joined (d : Nat) (v0 : Int32) (v1 : Int32) (v2 : Int32) (m : ej_M) {x : (Int32 × ej_M)} {res : Option Value × ej_H} {K : (Int32 × ej_M) → Prop} (hf : f_X2_joined v0 v1 v2 m = some x) (hK : K x) (h0 : ∀ q : (Int32 × ej_M), K q → res = (some (Value.int q.1), (ej_sh, q.2))) : ej_Z cX2_joined 3 (some .int) RX2 "joined" d 0 [(0, .int v0), (1, .int v1), (2, .int v2)] [] (ej_sh, m) res := by
  unfold f_X2_joined at hf
  refine z_iload_n (pc := 0) (i := 0) (j := 0) dX2_joined_0 rfl rfl ?_
  by_cases hs37 : v0 = 37
  · rw [if_pos hs37] at hf
    refine z_tabIn (pc := 1) (off := 135) (tgt := 136) dX2_joined_1 (by rw [hs37]; decide) (by rw [hs37]; decide) (by rw [hs37]; rfl) (by decide) ?_
    refine z_iload_n (pc := 136) (i := 2) (j := 2) dX2_joined_136 rfl rfl ?_
    refine z_if_ne (pc := 137) (tgt := 144) dX2_joined_137 (by decide) (fun hc => ?_) (fun hc => ?_)
    · rw [if_neg hc] at hf
      refine z_iload_n (pc := 144) (i := 1) (j := 1) dX2_joined_144 rfl rfl ?_
      refine z_iload_n (pc := 145) (i := 2) (j := 2) dX2_joined_145 rfl rfl ?_
      obtain ⟨w1, hw1, hf⟩ := Option.bind_eq_some_iff.mp hf
      refine z_orem (pc := 146) dX2_joined_146 hw1 ?_
      obtain rfl := Option.some.inj hf
      rw [h0 _ hK]
      exact z_iret dX2_joined_147 rfl rfl
    · rw [if_pos hc] at hf
      refine z_iconst (pc := 140) dX2_joined_140 ki_0 ?_
      refine z_goto (pc := 141) (tgt := 147) dX2_joined_141 (by decide) ?_
      obtain rfl := Option.some.inj hf
      rw [h0 _ hK]
      exact z_iret dX2_joined_147 rfl rfl
  · rw [if_neg hs37] at hf
    by_cases hs38 : v0 = 38
    · rw [if_pos hs38] at hf
      refine z_tabIn (pc := 1) (off := 188) (tgt := 189) dX2_joined_1 (by rw [hs38]; decide) (by rw [hs38]; decide) (by rw [hs38]; rfl) (by decide) ?_
      refine z_iload_n (pc := 189) (i := 1) (j := 1) dX2_joined_189 rfl rfl ?_
      refine z_if_eq (pc := 190) (tgt := 201) dX2_joined_190 (by decide) (fun hc => ?_) (fun hc => ?_)
      · rw [if_pos hc] at hf
        refine z_iconst (pc := 201) dX2_joined_201 ki_0 ?_
        obtain rfl := Option.some.inj hf
        rw [h0 _ hK]
        exact z_iret dX2_joined_202 rfl rfl
      · rw [if_neg hc] at hf
        refine z_iload_n (pc := 193) (i := 2) (j := 2) dX2_joined_193 rfl rfl ?_
        refine z_if_eq (pc := 194) (tgt := 201) dX2_joined_194 (by decide) (fun hc => ?_) (fun hc => ?_)
        · rw [if_pos hc] at hf
          refine z_iconst (pc := 201) dX2_joined_201 ki_0 ?_
          obtain rfl := Option.some.inj hf
          rw [h0 _ hK]
          exact z_iret dX2_joined_202 rfl rfl
        · rw [if_neg hc] at hf
          refine z_iconst (pc := 197) dX2_joined_197 ki_1 ?_
          refine z_goto (pc := 198) (tgt := 202) dX2_joined_198 (by decide) ?_
          obtain rfl := Option.some.inj hf
          rw [h0 _ hK]
          exact z_iret dX2_joined_202 rfl rfl
    · rw [if_neg hs38] at hf
      by_cases hs42 : v0 = 42
      · rw [if_pos hs42] at hf
        refine z_tabIn (pc := 1) (off := 119) (tgt := 120) dX2_joined_1 (by rw [hs42]; decide) (by rw [hs42]; decide) (by rw [hs42]; rfl) (by decide) ?_
        refine z_iload_n (pc := 120) (i := 1) (j := 1) dX2_joined_120 rfl rfl ?_
        refine z_iload_n (pc := 121) (i := 2) (j := 2) dX2_joined_121 rfl rfl ?_
        refine z_imul (pc := 122) dX2_joined_122 ?_
        obtain rfl := Option.some.inj hf
        rw [h0 _ hK]
        exact z_iret dX2_joined_123 rfl rfl
      · rw [if_neg hs42] at hf
        by_cases hs43 : v0 = 43
        · rw [if_pos hs43] at hf
          refine z_tabIn (pc := 1) (off := 147) (tgt := 148) dX2_joined_1 (by rw [hs43]; decide) (by rw [hs43]; decide) (by rw [hs43]; rfl) (by decide) ?_
          refine z_iload_n (pc := 148) (i := 1) (j := 1) dX2_joined_148 rfl rfl ?_
          refine z_iload_n (pc := 149) (i := 2) (j := 2) dX2_joined_149 rfl rfl ?_
          refine z_iadd (pc := 150) dX2_joined_150 ?_
          obtain rfl := Option.some.inj hf
          rw [h0 _ hK]
          exact z_iret dX2_joined_151 rfl rfl
        · rw [if_neg hs43] at hf
          by_cases hs45 : v0 = 45
          · rw [if_pos hs45] at hf
            refine z_tabIn (pc := 1) (off := 151) (tgt := 152) dX2_joined_1 (by rw [hs45]; decide) (by rw [hs45]; decide) (by rw [hs45]; rfl) (by decide) ?_
            refine z_iload_n (pc := 152) (i := 1) (j := 1) dX2_joined_152 rfl rfl ?_
            refine z_iload_n (pc := 153) (i := 2) (j := 2) dX2_joined_153 rfl rfl ?_
            refine z_isub (pc := 154) dX2_joined_154 ?_
            obtain rfl := Option.some.inj hf
            rw [h0 _ hK]
            exact z_iret dX2_joined_155 rfl rfl
          · rw [if_neg hs45] at hf
            by_cases hs47 : v0 = 47
            · rw [if_pos hs47] at hf
              refine z_tabIn (pc := 1) (off := 123) (tgt := 124) dX2_joined_1 (by rw [hs47]; decide) (by rw [hs47]; decide) (by rw [hs47]; rfl) (by decide) ?_
              refine z_iload_n (pc := 124) (i := 2) (j := 2) dX2_joined_124 rfl rfl ?_
              refine z_if_ne (pc := 125) (tgt := 132) dX2_joined_125 (by decide) (fun hc => ?_) (fun hc => ?_)
              · rw [if_neg hc] at hf
                refine z_iload_n (pc := 132) (i := 1) (j := 1) dX2_joined_132 rfl rfl ?_
                refine z_iload_n (pc := 133) (i := 2) (j := 2) dX2_joined_133 rfl rfl ?_
                obtain ⟨w2, hw2, hf⟩ := Option.bind_eq_some_iff.mp hf
                refine z_odiv (pc := 134) dX2_joined_134 hw2 ?_
                obtain rfl := Option.some.inj hf
                rw [h0 _ hK]
                exact z_iret dX2_joined_135 rfl rfl
              · rw [if_pos hc] at hf
                refine z_iconst (pc := 128) dX2_joined_128 ki_0 ?_
                refine z_goto (pc := 129) (tgt := 135) dX2_joined_129 (by decide) ?_
                obtain rfl := Option.some.inj hf
                rw [h0 _ hK]
                exact z_iret dX2_joined_135 rfl rfl
            · rw [if_neg hs47] at hf
              by_cases hs60 : v0 = 60
              · rw [if_pos hs60] at hf
                refine z_tabIn (pc := 1) (off := 155) (tgt := 156) dX2_joined_1 (by rw [hs60]; decide) (by rw [hs60]; decide) (by rw [hs60]; rfl) (by decide) ?_
                refine z_iload_n (pc := 156) (i := 1) (j := 1) dX2_joined_156 rfl rfl ?_
                refine z_iload_n (pc := 157) (i := 2) (j := 2) dX2_joined_157 rfl rfl ?_
                refine z_icmp_ge (pc := 158) (tgt := 165) dX2_joined_158 (by decide) (fun hc => ?_) (fun hc => ?_)
                · rw [if_pos hc] at hf
                  refine z_iconst (pc := 165) dX2_joined_165 ki_0 ?_
                  obtain rfl := Option.some.inj hf
                  rw [h0 _ hK]
                  exact z_iret dX2_joined_166 rfl rfl
                · rw [if_neg hc] at hf
                  refine z_iconst (pc := 161) dX2_joined_161 ki_1 ?_
                  refine z_goto (pc := 162) (tgt := 166) dX2_joined_162 (by decide) ?_
                  obtain rfl := Option.some.inj hf
                  rw [h0 _ hK]
                  exact z_iret dX2_joined_166 rfl rfl
              · rw [if_neg hs60] at hf
                by_cases hs61 : v0 = 61
                · rw [if_pos hs61] at hf
                  refine z_tabIn (pc := 1) (off := 166) (tgt := 167) dX2_joined_1 (by rw [hs61]; decide) (by rw [hs61]; decide) (by rw [hs61]; rfl) (by decide) ?_
                  refine z_iload_n (pc := 167) (i := 1) (j := 1) dX2_joined_167 rfl rfl ?_
                  refine z_iload_n (pc := 168) (i := 2) (j := 2) dX2_joined_168 rfl rfl ?_
                  refine z_icmp_ne (pc := 169) (tgt := 176) dX2_joined_169 (by decide) (fun hc => ?_) (fun hc => ?_)
                  · rw [if_neg hc] at hf
                    refine z_iconst (pc := 176) dX2_joined_176 ki_0 ?_
                    obtain rfl := Option.some.inj hf
                    rw [h0 _ hK]
                    exact z_iret dX2_joined_177 rfl rfl
                  · rw [if_pos hc] at hf
                    refine z_iconst (pc := 172) dX2_joined_172 ki_1 ?_
                    refine z_goto (pc := 173) (tgt := 177) dX2_joined_173 (by decide) ?_
                    obtain rfl := Option.some.inj hf
                    rw [h0 _ hK]
                    exact z_iret dX2_joined_177 rfl rfl
                · rw [if_neg hs61] at hf
                  by_cases hs62 : v0 = 62
                  · rw [if_pos hs62] at hf
                    refine z_tabIn (pc := 1) (off := 177) (tgt := 178) dX2_joined_1 (by rw [hs62]; decide) (by rw [hs62]; decide) (by rw [hs62]; rfl) (by decide) ?_
                    refine z_iload_n (pc := 178) (i := 1) (j := 1) dX2_joined_178 rfl rfl ?_
                    refine z_iload_n (pc := 179) (i := 2) (j := 2) dX2_joined_179 rfl rfl ?_
                    refine z_icmp_le (pc := 180) (tgt := 187) dX2_joined_180 (by decide) (fun hc => ?_) (fun hc => ?_)
                    · rw [if_pos hc] at hf
                      refine z_iconst (pc := 187) dX2_joined_187 ki_0 ?_
                      obtain rfl := Option.some.inj hf
                      rw [h0 _ hK]
                      exact z_iret dX2_joined_188 rfl rfl
                    · rw [if_neg hc] at hf
                      refine z_iconst (pc := 183) dX2_joined_183 ki_1 ?_
                      refine z_goto (pc := 184) (tgt := 188) dX2_joined_184 (by decide) ?_
                      obtain rfl := Option.some.inj hf
                      rw [h0 _ hK]
                      exact z_iret dX2_joined_188 rfl rfl
                  · rw [if_neg hs62] at hf
                    refine z_tabD (pc := 1) (tgt := 203) dX2_joined_1 (by decide) (fun k hk => ?_) (by decide) ?_
                    · have hk9 : k = 0 ∨ k = 1 ∨ k = 2 ∨ k = 3 ∨ k = 4 ∨ k = 5 ∨ k = 6 ∨ k = 7 ∨ k = 8 ∨ k = 9 ∨ k = 10 ∨ k = 11 ∨ k = 12 ∨ k = 13 ∨ k = 14 ∨ k = 15 ∨ k = 16 ∨ k = 17 ∨ k = 18 ∨ k = 19 ∨ k = 20 ∨ k = 21 ∨ k = 22 ∨ k = 23 ∨ k = 24 ∨ k = 25 := by have hk8 : k < 26 := hk; omega
                      rcases hk9 with rfl | rfl | rfl | rfl | rfl | rfl | rfl | rfl | rfl | rfl | rfl | rfl | rfl | rfl | rfl | rfl | rfl | rfl | rfl | rfl | rfl | rfl | rfl | rfl | rfl | rfl
                      · exact Or.inr (by have := lv_neT hs37 (show (37 : Int32).toInt = 37 by decide); omega)
                      · exact Or.inr (by have := lv_neT hs38 (show (38 : Int32).toInt = 38 by decide); omega)
                      · exact Or.inl rfl
                      · exact Or.inl rfl
                      · exact Or.inl rfl
                      · exact Or.inr (by have := lv_neT hs42 (show (42 : Int32).toInt = 42 by decide); omega)
                      · exact Or.inr (by have := lv_neT hs43 (show (43 : Int32).toInt = 43 by decide); omega)
                      · exact Or.inl rfl
                      · exact Or.inr (by have := lv_neT hs45 (show (45 : Int32).toInt = 45 by decide); omega)
                      · exact Or.inl rfl
                      · exact Or.inr (by have := lv_neT hs47 (show (47 : Int32).toInt = 47 by decide); omega)
                      · exact Or.inl rfl
                      · exact Or.inl rfl
                      · exact Or.inl rfl
                      · exact Or.inl rfl
                      · exact Or.inl rfl
                      · exact Or.inl rfl
                      · exact Or.inl rfl
                      · exact Or.inl rfl
                      · exact Or.inl rfl
                      · exact Or.inl rfl
                      · exact Or.inl rfl
                      · exact Or.inl rfl
                      · exact Or.inr (by have := lv_neT hs60 (show (60 : Int32).toInt = 60 by decide); omega)
                      · exact Or.inr (by have := lv_neT hs61 (show (61 : Int32).toInt = 61 by decide); omega)
                      · exact Or.inr (by have := lv_neT hs62 (show (62 : Int32).toInt = 62 by decide); omega)
                    refine z_iload_n (pc := 203) (i := 1) (j := 1) dX2_joined_203 rfl rfl ?_
                    refine z_if_ne (pc := 204) (tgt := 211) dX2_joined_204 (by decide) (fun hc => ?_) (fun hc => ?_)
                    · rw [if_neg hc] at hf
                      refine z_iconst (pc := 211) dX2_joined_211 ki_1 ?_
                      refine z_goto (pc := 212) (tgt := 216) dX2_joined_212 (by decide) ?_
                      obtain rfl := Option.some.inj hf
                      rw [h0 _ hK]
                      exact z_iret dX2_joined_216 rfl rfl
                    · rw [if_pos hc] at hf
                      refine z_iload_n (pc := 207) (i := 2) (j := 2) dX2_joined_207 rfl rfl ?_
                      refine z_if_eq (pc := 208) (tgt := 215) dX2_joined_208 (by decide) (fun hc => ?_) (fun hc => ?_)
                      · rw [if_pos hc] at hf
                        refine z_iconst (pc := 215) dX2_joined_215 ki_0 ?_
                        obtain rfl := Option.some.inj hf
                        rw [h0 _ hK]
                        exact z_iret dX2_joined_216 rfl rfl
                      · rw [if_neg hc] at hf
                        refine z_iconst (pc := 211) dX2_joined_211 ki_1 ?_
                        refine z_goto (pc := 212) (tgt := 216) dX2_joined_212 (by decide) ?_
                        obtain rfl := Option.some.inj hf
                        rw [h0 _ hK]
                        exact z_iret dX2_joined_216 rfl rfl
set_option maxHeartbeats 4000000 in
set_option maxRecDepth 100000 in
theorem c_X2_joined (d : Nat) (hd : 0 ≤ d) (v0 : Int32) (v1 : Int32) (v2 : Int32) (m : ej_M) {q : (Int32 × ej_M)} (hf : f_X2_joined v0 v1 v2 m = some q) : ej_Ct yX2_joined cX2_joined 3 (some .int) d [.int v0, .int v1, .int v2] (ej_sh, m) ((some (Value.int q.1), (ej_sh, q.2)) : Option Value × ej_H) := by
  exact z_met (by decide +kernel) (Nat.le_of_ble_eq_true rfl) (b_X2_joined d v0 v1 v2 m (K := fun z => ((some (Value.int q.1), (ej_sh, q.2)) : Option Value × ej_H) = (some (Value.int z.1), (ej_sh, z.2))) hf rfl (fun _ h => h))
def f_X2_named (v0 : Int32) (v1 : Int32) (v2 : Int32) (v3 : Int32) (v4 : Int32) (v5 : Int32) (v6 : Int32) (m : ej_M) : Option (Int32 × ej_M) :=
  if v0 = 0 then
    some (v1, m)
  else
    if v0 = 1 then
      some (v2, m)
    else
      if v0 = 2 then
        some (v3, m)
      else
        if v0 = 3 then
          some (v4, m)
        else
          if v0 = 4 then
            some (v5, m)
          else
            some (v6, m)
set_option maxHeartbeats 4000000 in
set_option maxRecDepth 100000 in
theorem b_X2_named (d : Nat) (v0 : Int32) (v1 : Int32) (v2 : Int32) (v3 : Int32) (v4 : Int32) (v5 : Int32) (v6 : Int32) (m : ej_M) {x : (Int32 × ej_M)} {res : Option Value × ej_H} {K : (Int32 × ej_M) → Prop} (hf : f_X2_named v0 v1 v2 v3 v4 v5 v6 m = some x) (hK : K x) (h0 : ∀ q : (Int32 × ej_M), K q → res = (some (Value.int q.1), (ej_sh, q.2))) : ej_Z cX2_named 7 (some .int) RX2 "named" d 0 [(0, .int v0), (1, .int v1), (2, .int v2), (3, .int v3), (4, .int v4), (5, .int v5), (6, .int v6)] [] (ej_sh, m) res := by
  unfold f_X2_named at hf
  refine z_iload_n (pc := 0) (i := 0) (j := 0) dX2_named_0 rfl rfl ?_
  by_cases hs0 : v0 = 0
  · rw [if_pos hs0] at hf
    refine z_tabIn (pc := 1) (off := 35) (tgt := 36) dX2_named_1 (by rw [hs0]; decide) (by rw [hs0]; decide) (by rw [hs0]; rfl) (by decide) ?_
    refine z_iload_n (pc := 36) (i := 1) (j := 1) dX2_named_36 rfl rfl ?_
    obtain rfl := Option.some.inj hf
    rw [h0 _ hK]
    exact z_iret dX2_named_37 rfl rfl
  · rw [if_neg hs0] at hf
    by_cases hs1 : v0 = 1
    · rw [if_pos hs1] at hf
      refine z_tabIn (pc := 1) (off := 37) (tgt := 38) dX2_named_1 (by rw [hs1]; decide) (by rw [hs1]; decide) (by rw [hs1]; rfl) (by decide) ?_
      refine z_iload_n (pc := 38) (i := 2) (j := 2) dX2_named_38 rfl rfl ?_
      obtain rfl := Option.some.inj hf
      rw [h0 _ hK]
      exact z_iret dX2_named_39 rfl rfl
    · rw [if_neg hs1] at hf
      by_cases hs2 : v0 = 2
      · rw [if_pos hs2] at hf
        refine z_tabIn (pc := 1) (off := 39) (tgt := 40) dX2_named_1 (by rw [hs2]; decide) (by rw [hs2]; decide) (by rw [hs2]; rfl) (by decide) ?_
        refine z_iload_n (pc := 40) (i := 3) (j := 3) dX2_named_40 rfl rfl ?_
        obtain rfl := Option.some.inj hf
        rw [h0 _ hK]
        exact z_iret dX2_named_41 rfl rfl
      · rw [if_neg hs2] at hf
        by_cases hs3 : v0 = 3
        · rw [if_pos hs3] at hf
          refine z_tabIn (pc := 1) (off := 41) (tgt := 42) dX2_named_1 (by rw [hs3]; decide) (by rw [hs3]; decide) (by rw [hs3]; rfl) (by decide) ?_
          refine z_iload (pc := 42) (i := 4) (j := 4) dX2_named_42 rfl ?_
          obtain rfl := Option.some.inj hf
          rw [h0 _ hK]
          exact z_iret dX2_named_44 rfl rfl
        · rw [if_neg hs3] at hf
          by_cases hs4 : v0 = 4
          · rw [if_pos hs4] at hf
            refine z_tabIn (pc := 1) (off := 44) (tgt := 45) dX2_named_1 (by rw [hs4]; decide) (by rw [hs4]; decide) (by rw [hs4]; rfl) (by decide) ?_
            refine z_iload (pc := 45) (i := 5) (j := 5) dX2_named_45 rfl ?_
            obtain rfl := Option.some.inj hf
            rw [h0 _ hK]
            exact z_iret dX2_named_47 rfl rfl
          · rw [if_neg hs4] at hf
            refine z_tabD (pc := 1) (tgt := 48) dX2_named_1 (by decide) (fun k hk => ?_) (by decide) ?_
            · have hk9 : k = 0 ∨ k = 1 ∨ k = 2 ∨ k = 3 ∨ k = 4 := by have hk8 : k < 5 := hk; omega
              rcases hk9 with rfl | rfl | rfl | rfl | rfl
              · exact Or.inr (by have := lv_neT hs0 (show (0 : Int32).toInt = 0 by decide); omega)
              · exact Or.inr (by have := lv_neT hs1 (show (1 : Int32).toInt = 1 by decide); omega)
              · exact Or.inr (by have := lv_neT hs2 (show (2 : Int32).toInt = 2 by decide); omega)
              · exact Or.inr (by have := lv_neT hs3 (show (3 : Int32).toInt = 3 by decide); omega)
              · exact Or.inr (by have := lv_neT hs4 (show (4 : Int32).toInt = 4 by decide); omega)
            refine z_iload (pc := 48) (i := 6) (j := 6) dX2_named_48 rfl ?_
            obtain rfl := Option.some.inj hf
            rw [h0 _ hK]
            exact z_iret dX2_named_50 rfl rfl
set_option maxHeartbeats 4000000 in
set_option maxRecDepth 100000 in
theorem c_X2_named (d : Nat) (hd : 0 ≤ d) (v0 : Int32) (v1 : Int32) (v2 : Int32) (v3 : Int32) (v4 : Int32) (v5 : Int32) (v6 : Int32) (m : ej_M) {q : (Int32 × ej_M)} (hf : f_X2_named v0 v1 v2 v3 v4 v5 v6 m = some q) : ej_Ct yX2_named cX2_named 7 (some .int) d [.int v0, .int v1, .int v2, .int v3, .int v4, .int v5, .int v6] (ej_sh, m) ((some (Value.int q.1), (ej_sh, q.2)) : Option Value × ej_H) := by
  exact z_met (by decide +kernel) (Nat.le_of_ble_eq_true rfl) (b_X2_named d v0 v1 v2 v3 v4 v5 v6 m (K := fun z => ((some (Value.int q.1), (ej_sh, q.2)) : Option Value × ej_H) = (some (Value.int z.1), (ej_sh, z.2))) hf rfl (fun _ h => h))
def f_X2_value_B115 (v1 : Int32) (v2 : Int32) (v3 : Int32) (v4 : Int32) (v5 : Int32) (v6 : Int32) (v7 : Int32) (v8 : Int32) (v9 : Int32) (v10 : Int32) (m : ej_M) : Option ((Int32 × Int32 × Int32 × ej_M) ⊕ (Int32 × ej_M)) :=
  (f_X10_at 5 (v7 - 1) m).bind fun q1 =>
  (f_X2_alone (-v10) q1.1 q1.2).bind fun q2 =>
  (f_X10_lay 5 (v7 - 1) q2.1 q2.2).bind fun q3 =>
  some (Sum.inl (v7, v8, (v9 + 1), q3.2))
set_option maxHeartbeats 4000000 in
set_option maxRecDepth 100000 in
theorem b_X2_value_B115 (e : Nat) (hd : 1 ≤ e) (v1 : Int32) (v2 : Int32) (v3 : Int32) (v4 : Int32) (v5 : Int32) (v6 : Int32) (v7 : Int32) (v8 : Int32) (v9 : Int32) (v10 : Int32) (m : ej_M) {x : ((Int32 × Int32 × Int32 × ej_M) ⊕ (Int32 × ej_M))} {res : Option Value × ej_H} {K : ((Int32 × Int32 × Int32 × ej_M) ⊕ (Int32 × ej_M)) → Prop} (hf : f_X2_value_B115 v1 v2 v3 v4 v5 v6 v7 v8 v9 v10 m = some x) (hK : K x) (h1 : ∀ q : (Int32 × Int32 × Int32 × ej_M), K (Sum.inl q) → ej_Z cX2_value 12 (some .int) RX2 "value" (e + 1) 29 [(0, .ref 1), (1, .int v1), (2, .int v2), (3, .int v3), (4, .int v4), (5, .int v5), (6, .int v6), (7, .int q.1), (8, .int q.2.1), (9, .int q.2.2.1)] [] (ej_sh, q.2.2.2) res) (h0 : ∀ q : (Int32 × ej_M), K (Sum.inr q) → res = (some (Value.int q.1), (ej_sh, q.2))) : ej_Z cX2_value 12 (some .int) RX2 "value" (e + 1) 115 [(0, .ref 1), (1, .int v1), (2, .int v2), (3, .int v3), (4, .int v4), (5, .int v5), (6, .int v6), (7, .int v7), (8, .int v8), (9, .int v9), (10, .int v10)] [] (ej_sh, m) res := by
  unfold f_X2_value_B115 at hf
  refine z_aload_n (pc := 115) (i := 0) (j := 0) dX2_value_115 rfl rfl ?_
  refine z_ogetR (pc := 116) dX2_value_116 lf_RX2_21 sh_1 rfl rfl rfl ?_
  refine z_iload (pc := 119) (i := 7) (j := 7) dX2_value_119 rfl ?_
  refine z_iconst (pc := 121) dX2_value_121 ki_1 ?_
  refine z_isub (pc := 122) dX2_value_122 ?_
  refine z_iload (pc := 123) (i := 10) (j := 10) dX2_value_123 rfl ?_
  refine z_ineg (pc := 125) dX2_value_125 ?_
  refine z_aload_n (pc := 126) (i := 0) (j := 0) dX2_value_126 rfl rfl ?_
  refine z_ogetR (pc := 127) dX2_value_127 lf_RX2_21 sh_1 rfl rfl rfl ?_
  refine z_iload (pc := 130) (i := 7) (j := 7) dX2_value_130 rfl ?_
  refine z_iconst (pc := 132) dX2_value_132 ki_1 ?_
  refine z_isub (pc := 133) dX2_value_133 ?_
  obtain ⟨q1, hq1, hf⟩ := Option.bind_eq_some_iff.mp hf
  refine z_oSi (pc := 134) (as := [.ref 5, .int (v7 - 1)]) (rest := [.int (-v10), .int (v7 - 1), .ref 5]) dX2_value_134 lm_RX2_107 mf_X10_at ms_X10_at rfl rfl (Nat.le_of_ble_eq_true rfl) (c_X10_at e (by omega) 5 (v7 - 1) m hq1) ?_
  obtain ⟨q2, hq2, hf⟩ := Option.bind_eq_some_iff.mp hf
  refine z_oSi (pc := 137) (as := [.int (-v10), .int q1.1]) (rest := [.int (v7 - 1), .ref 5]) dX2_value_137 lm_RX2_117 mf_X2_alone ms_X2_alone rfl rfl (Nat.le_of_ble_eq_true rfl) (c_X2_alone e (by omega) (-v10) q1.1 q1.2 hq2) ?_
  obtain ⟨q3, hq3, hf⟩ := Option.bind_eq_some_iff.mp hf
  refine z_oSv (pc := 140) (as := [.ref 5, .int (v7 - 1), .int q2.1]) (rest := []) dX2_value_140 lm_RX2_28 mf_X10_lay ms_X10_lay rfl rfl (Nat.le_of_ble_eq_true rfl) (c_X10_lay e (by omega) 5 (v7 - 1) q2.1 q2.2 hq3) ?_
  refine z_goto (pc := 143) (tgt := 240) dX2_value_143 (by decide) ?_
  refine z_iinc (pc := 240) (j := 9) (ls' := [(9, .int (v9 + 1)), (0, .ref 1), (1, .int v1), (2, .int v2), (3, .int v3), (4, .int v4), (5, .int v5), (6, .int v6), (7, .int v7), (8, .int v8), (10, .int v10)]) dX2_value_240 rfl ki_1 (Nat.le_of_ble_eq_true rfl) rfl ?_
  refine z_goto (pc := 243) (tgt := 29) dX2_value_243 (by decide) ?_
  obtain rfl := Option.some.inj hf
  exact z_pick (ls' := [(0, .ref 1), (1, .int v1), (2, .int v2), (3, .int v3), (4, .int v4), (5, .int v5), (6, .int v6), (7, .int v7), (8, .int v8), (9, .int (v9 + 1))]) [1, 2, 3, 4, 5, 6, 7, 8, 9, 0] rfl (h1 (v7, v8, (v9 + 1), q3.2) hK)
def f_X2_value_B175 (v1 : Int32) (v2 : Int32) (v3 : Int32) (v4 : Int32) (v5 : Int32) (v6 : Int32) (v7 : Int32) (v8 : Int32) (v9 : Int32) (v10 : Int32) (v11 : Int32) (m : ej_M) : Option ((Int32 × Int32 × Int32 × ej_M) ⊕ (Int32 × ej_M)) :=
  if v10 = (-59) then
    some (Sum.inl (v7, 1, (v9 + 1), m))
  else
    if v10 = (-63) then
      if v11 = 0 then
        some (Sum.inl (v7, 0, (v9 + 1), m))
      else
        some (Sum.inl (v7, 1, (v9 + 1), m))
    else
      (f_X10_at 5 (v7 - 1) m).bind fun q1 =>
      (f_X2_joined (-v10) q1.1 v11 q1.2).bind fun q2 =>
      (f_X10_lay 5 (v7 - 1) q2.1 q2.2).bind fun q3 =>
      some (Sum.inl (v7, v8, (v9 + 1), q3.2))
set_option maxHeartbeats 4000000 in
set_option maxRecDepth 100000 in
theorem b_X2_value_B175 (e : Nat) (hd : 1 ≤ e) (v1 : Int32) (v2 : Int32) (v3 : Int32) (v4 : Int32) (v5 : Int32) (v6 : Int32) (v7 : Int32) (v8 : Int32) (v9 : Int32) (v10 : Int32) (v11 : Int32) (m : ej_M) {x : ((Int32 × Int32 × Int32 × ej_M) ⊕ (Int32 × ej_M))} {res : Option Value × ej_H} {K : ((Int32 × Int32 × Int32 × ej_M) ⊕ (Int32 × ej_M)) → Prop} (hf : f_X2_value_B175 v1 v2 v3 v4 v5 v6 v7 v8 v9 v10 v11 m = some x) (hK : K x) (h1 : ∀ q : (Int32 × Int32 × Int32 × ej_M), K (Sum.inl q) → ej_Z cX2_value 12 (some .int) RX2 "value" (e + 1) 29 [(0, .ref 1), (1, .int v1), (2, .int v2), (3, .int v3), (4, .int v4), (5, .int v5), (6, .int v6), (7, .int q.1), (8, .int q.2.1), (9, .int q.2.2.1)] [] (ej_sh, q.2.2.2) res) (h0 : ∀ q : (Int32 × ej_M), K (Sum.inr q) → res = (some (Value.int q.1), (ej_sh, q.2))) : ej_Z cX2_value 12 (some .int) RX2 "value" (e + 1) 175 [(0, .ref 1), (1, .int v1), (2, .int v2), (3, .int v3), (4, .int v4), (5, .int v5), (6, .int v6), (7, .int v7), (8, .int v8), (9, .int v9), (10, .int v10), (11, .int v11)] [] (ej_sh, m) res := by
  unfold f_X2_value_B175 at hf
  refine z_iload (pc := 175) (i := 10) (j := 10) dX2_value_175 rfl ?_
  refine z_bipush (pc := 177) dX2_value_177 kb_n59 ?_
  refine z_icmp_ne (pc := 179) (tgt := 188) dX2_value_179 (by decide) (fun hc => ?_) (fun hc => ?_)
  · rw [if_neg hc] at hf
    refine z_iload (pc := 188) (i := 10) (j := 10) dX2_value_188 rfl ?_
    refine z_bipush (pc := 190) dX2_value_190 kb_n63 ?_
    refine z_icmp_ne (pc := 192) (tgt := 210) dX2_value_192 (by decide) (fun hc => ?_) (fun hc => ?_)
    · rw [if_neg hc] at hf
      refine z_aload_n (pc := 210) (i := 0) (j := 0) dX2_value_210 rfl rfl ?_
      refine z_ogetR (pc := 211) dX2_value_211 lf_RX2_21 sh_1 rfl rfl rfl ?_
      refine z_iload (pc := 214) (i := 7) (j := 7) dX2_value_214 rfl ?_
      refine z_iconst (pc := 216) dX2_value_216 ki_1 ?_
      refine z_isub (pc := 217) dX2_value_217 ?_
      refine z_iload (pc := 218) (i := 10) (j := 10) dX2_value_218 rfl ?_
      refine z_ineg (pc := 220) dX2_value_220 ?_
      refine z_aload_n (pc := 221) (i := 0) (j := 0) dX2_value_221 rfl rfl ?_
      refine z_ogetR (pc := 222) dX2_value_222 lf_RX2_21 sh_1 rfl rfl rfl ?_
      refine z_iload (pc := 225) (i := 7) (j := 7) dX2_value_225 rfl ?_
      refine z_iconst (pc := 227) dX2_value_227 ki_1 ?_
      refine z_isub (pc := 228) dX2_value_228 ?_
      obtain ⟨q1, hq1, hf⟩ := Option.bind_eq_some_iff.mp hf
      refine z_oSi (pc := 229) (as := [.ref 5, .int (v7 - 1)]) (rest := [.int (-v10), .int (v7 - 1), .ref 5]) dX2_value_229 lm_RX2_107 mf_X10_at ms_X10_at rfl rfl (Nat.le_of_ble_eq_true rfl) (c_X10_at e (by omega) 5 (v7 - 1) m hq1) ?_
      refine z_iload (pc := 232) (i := 11) (j := 11) dX2_value_232 rfl ?_
      obtain ⟨q2, hq2, hf⟩ := Option.bind_eq_some_iff.mp hf
      refine z_oSi (pc := 234) (as := [.int (-v10), .int q1.1, .int v11]) (rest := [.int (v7 - 1), .ref 5]) dX2_value_234 lm_RX2_121 mf_X2_joined ms_X2_joined rfl rfl (Nat.le_of_ble_eq_true rfl) (c_X2_joined e (by omega) (-v10) q1.1 v11 q1.2 hq2) ?_
      obtain ⟨q3, hq3, hf⟩ := Option.bind_eq_some_iff.mp hf
      refine z_oSv (pc := 237) (as := [.ref 5, .int (v7 - 1), .int q2.1]) (rest := []) dX2_value_237 lm_RX2_28 mf_X10_lay ms_X10_lay rfl rfl (Nat.le_of_ble_eq_true rfl) (c_X10_lay e (by omega) 5 (v7 - 1) q2.1 q2.2 hq3) ?_
      refine z_iinc (pc := 240) (j := 9) (ls' := [(9, .int (v9 + 1)), (0, .ref 1), (1, .int v1), (2, .int v2), (3, .int v3), (4, .int v4), (5, .int v5), (6, .int v6), (7, .int v7), (8, .int v8), (10, .int v10), (11, .int v11)]) dX2_value_240 rfl ki_1 (Nat.le_of_ble_eq_true rfl) rfl ?_
      refine z_goto (pc := 243) (tgt := 29) dX2_value_243 (by decide) ?_
      obtain rfl := Option.some.inj hf
      exact z_pick (ls' := [(0, .ref 1), (1, .int v1), (2, .int v2), (3, .int v3), (4, .int v4), (5, .int v5), (6, .int v6), (7, .int v7), (8, .int v8), (9, .int (v9 + 1))]) [1, 2, 3, 4, 5, 6, 7, 8, 9, 0] rfl (h1 (v7, v8, (v9 + 1), q3.2) hK)
    · rw [if_pos hc] at hf
      refine z_iload (pc := 195) (i := 11) (j := 11) dX2_value_195 rfl ?_
      refine z_if_eq (pc := 197) (tgt := 204) dX2_value_197 (by decide) (fun hc => ?_) (fun hc => ?_)
      · rw [if_pos hc] at hf
        refine z_iconst (pc := 204) dX2_value_204 ki_0 ?_
        refine z_istore (pc := 205) (i := 8) (ls' := [(8, .int 0), (0, .ref 1), (1, .int v1), (2, .int v2), (3, .int v3), (4, .int v4), (5, .int v5), (6, .int v6), (7, .int v7), (9, .int v9), (10, .int v10), (11, .int v11)]) dX2_value_205 (Nat.le_of_ble_eq_true rfl) rfl ?_
        refine z_goto (pc := 207) (tgt := 240) dX2_value_207 (by decide) ?_
        refine z_iinc (pc := 240) (j := 9) (ls' := [(9, .int (v9 + 1)), (8, .int 0), (0, .ref 1), (1, .int v1), (2, .int v2), (3, .int v3), (4, .int v4), (5, .int v5), (6, .int v6), (7, .int v7), (10, .int v10), (11, .int v11)]) dX2_value_240 rfl ki_1 (Nat.le_of_ble_eq_true rfl) rfl ?_
        refine z_goto (pc := 243) (tgt := 29) dX2_value_243 (by decide) ?_
        obtain rfl := Option.some.inj hf
        exact z_pick (ls' := [(0, .ref 1), (1, .int v1), (2, .int v2), (3, .int v3), (4, .int v4), (5, .int v5), (6, .int v6), (7, .int v7), (8, .int 0), (9, .int (v9 + 1))]) [2, 3, 4, 5, 6, 7, 8, 9, 1, 0] rfl (h1 (v7, 0, (v9 + 1), m) hK)
      · rw [if_neg hc] at hf
        refine z_iconst (pc := 200) dX2_value_200 ki_1 ?_
        refine z_goto (pc := 201) (tgt := 205) dX2_value_201 (by decide) ?_
        refine z_istore (pc := 205) (i := 8) (ls' := [(8, .int 1), (0, .ref 1), (1, .int v1), (2, .int v2), (3, .int v3), (4, .int v4), (5, .int v5), (6, .int v6), (7, .int v7), (9, .int v9), (10, .int v10), (11, .int v11)]) dX2_value_205 (Nat.le_of_ble_eq_true rfl) rfl ?_
        refine z_goto (pc := 207) (tgt := 240) dX2_value_207 (by decide) ?_
        refine z_iinc (pc := 240) (j := 9) (ls' := [(9, .int (v9 + 1)), (8, .int 1), (0, .ref 1), (1, .int v1), (2, .int v2), (3, .int v3), (4, .int v4), (5, .int v5), (6, .int v6), (7, .int v7), (10, .int v10), (11, .int v11)]) dX2_value_240 rfl ki_1 (Nat.le_of_ble_eq_true rfl) rfl ?_
        refine z_goto (pc := 243) (tgt := 29) dX2_value_243 (by decide) ?_
        obtain rfl := Option.some.inj hf
        exact z_pick (ls' := [(0, .ref 1), (1, .int v1), (2, .int v2), (3, .int v3), (4, .int v4), (5, .int v5), (6, .int v6), (7, .int v7), (8, .int 1), (9, .int (v9 + 1))]) [2, 3, 4, 5, 6, 7, 8, 9, 1, 0] rfl (h1 (v7, 1, (v9 + 1), m) hK)
  · rw [if_pos hc] at hf
    refine z_iconst (pc := 182) dX2_value_182 ki_1 ?_
    refine z_istore (pc := 183) (i := 8) (ls' := [(8, .int 1), (0, .ref 1), (1, .int v1), (2, .int v2), (3, .int v3), (4, .int v4), (5, .int v5), (6, .int v6), (7, .int v7), (9, .int v9), (10, .int v10), (11, .int v11)]) dX2_value_183 (Nat.le_of_ble_eq_true rfl) rfl ?_
    refine z_goto (pc := 185) (tgt := 240) dX2_value_185 (by decide) ?_
    refine z_iinc (pc := 240) (j := 9) (ls' := [(9, .int (v9 + 1)), (8, .int 1), (0, .ref 1), (1, .int v1), (2, .int v2), (3, .int v3), (4, .int v4), (5, .int v5), (6, .int v6), (7, .int v7), (10, .int v10), (11, .int v11)]) dX2_value_240 rfl ki_1 (Nat.le_of_ble_eq_true rfl) rfl ?_
    refine z_goto (pc := 243) (tgt := 29) dX2_value_243 (by decide) ?_
    obtain rfl := Option.some.inj hf
    exact z_pick (ls' := [(0, .ref 1), (1, .int v1), (2, .int v2), (3, .int v3), (4, .int v4), (5, .int v5), (6, .int v6), (7, .int v7), (8, .int 1), (9, .int (v9 + 1))]) [2, 3, 4, 5, 6, 7, 8, 9, 1, 0] rfl (h1 (v7, 1, (v9 + 1), m) hK)
def f_X2_value_B92 (v1 : Int32) (v2 : Int32) (v3 : Int32) (v4 : Int32) (v5 : Int32) (v6 : Int32) (v7 : Int32) (v8 : Int32) (v9 : Int32) (s0 : Int32) (s1 : Int32) (m : ej_M) : Option ((Int32 × Int32 × Int32 × ej_M) ⊕ (Int32 × ej_M)) :=
  (f_X10_lay 5 s1 s0 m).bind fun q1 =>
  some (Sum.inl ((v7 + 1), v8, (v9 + 1), q1.2))
set_option maxHeartbeats 4000000 in
set_option maxRecDepth 100000 in
theorem b_X2_value_B92 (e : Nat) (hd : 1 ≤ e) (v1 : Int32) (v2 : Int32) (v3 : Int32) (v4 : Int32) (v5 : Int32) (v6 : Int32) (v7 : Int32) (v8 : Int32) (v9 : Int32) (s0 : Int32) (s1 : Int32) (m : ej_M) {x : ((Int32 × Int32 × Int32 × ej_M) ⊕ (Int32 × ej_M))} {res : Option Value × ej_H} {K : ((Int32 × Int32 × Int32 × ej_M) ⊕ (Int32 × ej_M)) → Prop} (hf : f_X2_value_B92 v1 v2 v3 v4 v5 v6 v7 v8 v9 s0 s1 m = some x) (hK : K x) (h1 : ∀ q : (Int32 × Int32 × Int32 × ej_M), K (Sum.inl q) → ej_Z cX2_value 12 (some .int) RX2 "value" (e + 1) 29 [(0, .ref 1), (1, .int v1), (2, .int v2), (3, .int v3), (4, .int v4), (5, .int v5), (6, .int v6), (7, .int q.1), (8, .int q.2.1), (9, .int q.2.2.1)] [] (ej_sh, q.2.2.2) res) (h0 : ∀ q : (Int32 × ej_M), K (Sum.inr q) → res = (some (Value.int q.1), (ej_sh, q.2))) : ej_Z cX2_value 12 (some .int) RX2 "value" (e + 1) 92 [(0, .ref 1), (1, .int v1), (2, .int v2), (3, .int v3), (4, .int v4), (5, .int v5), (6, .int v6), (7, .int v7), (8, .int v8), (9, .int v9)] [.int s0, .int s1, .ref 5] (ej_sh, m) res := by
  unfold f_X2_value_B92 at hf
  obtain ⟨q1, hq1, hf⟩ := Option.bind_eq_some_iff.mp hf
  refine z_oSv (pc := 92) (as := [.ref 5, .int s1, .int s0]) (rest := []) dX2_value_92 lm_RX2_28 mf_X10_lay ms_X10_lay rfl rfl (Nat.le_of_ble_eq_true rfl) (c_X10_lay e (by omega) 5 s1 s0 m hq1) ?_
  refine z_iinc (pc := 95) (j := 7) (ls' := [(7, .int (v7 + 1)), (0, .ref 1), (1, .int v1), (2, .int v2), (3, .int v3), (4, .int v4), (5, .int v5), (6, .int v6), (8, .int v8), (9, .int v9)]) dX2_value_95 rfl ki_1 (Nat.le_of_ble_eq_true rfl) rfl ?_
  refine z_goto (pc := 98) (tgt := 240) dX2_value_98 (by decide) ?_
  refine z_iinc (pc := 240) (j := 9) (ls' := [(9, .int (v9 + 1)), (7, .int (v7 + 1)), (0, .ref 1), (1, .int v1), (2, .int v2), (3, .int v3), (4, .int v4), (5, .int v5), (6, .int v6), (8, .int v8)]) dX2_value_240 rfl ki_1 (Nat.le_of_ble_eq_true rfl) rfl ?_
  refine z_goto (pc := 243) (tgt := 29) dX2_value_243 (by decide) ?_
  obtain rfl := Option.some.inj hf
  exact z_pick (ls' := [(0, .ref 1), (1, .int v1), (2, .int v2), (3, .int v3), (4, .int v4), (5, .int v5), (6, .int v6), (7, .int (v7 + 1)), (8, .int v8), (9, .int (v9 + 1))]) [2, 3, 4, 5, 6, 7, 8, 1, 9, 0] rfl (h1 ((v7 + 1), v8, (v9 + 1), q1.2) hK)
def f_X2_value_L29b (v1 : Int32) (v2 : Int32) (v3 : Int32) (v4 : Int32) (v5 : Int32) (v6 : Int32) (v7 : Int32) (v8 : Int32) (v9 : Int32) (m : ej_M) : Option ((Int32 × Int32 × Int32 × ej_M) ⊕ (Int32 × ej_M)) :=
  if (m.1 1 6) ≤ v9 then
    some (Sum.inr (0, m))
  else
    (f_X10_at 4 v9 m).bind fun q1 =>
    (oj_sv (2000)).bind fun w2 =>
    (f_J0_length_8abf5 (2000) q1.2).bind fun q3 =>
    if q1.1 < (-q3.1) then
      if q1.1 = (-33) then
        f_X2_value_B115 v1 v2 v3 v4 v5 v6 v7 v8 v9 q1.1 q3.2
      else
        if q1.1 = (-126) then
          f_X2_value_B115 v1 v2 v3 v4 v5 v6 v7 v8 v9 q1.1 q3.2
        else
          (f_X10_at 5 (v7 + (-1)) q3.2).bind fun q4 =>
          if q1.1 = (-59) then
            if v8 = 0 then
              f_X2_value_B175 v1 v2 v3 v4 v5 v6 (v7 + (-1)) v8 v9 q1.1 q4.1 q4.2
            else
              some (Sum.inr (q4.1, q4.2))
          else
            f_X2_value_B175 v1 v2 v3 v4 v5 v6 (v7 + (-1)) v8 v9 q1.1 q4.1 q4.2
    else
      if q1.1 < 0 then
        (f_X2_named ((-1) - q1.1) v1 v2 v3 v4 v5 v6 q3.2).bind fun q5 =>
        f_X2_value_B92 v1 v2 v3 v4 v5 v6 v7 v8 v9 q5.1 v7 q5.2
      else
        f_X2_value_B92 v1 v2 v3 v4 v5 v6 v7 v8 v9 q1.1 v7 q3.2
set_option maxHeartbeats 4000000 in
set_option maxRecDepth 100000 in
theorem b_X2_value_L29b (e : Nat) (hd : 1 ≤ e) (v1 : Int32) (v2 : Int32) (v3 : Int32) (v4 : Int32) (v5 : Int32) (v6 : Int32) (v7 : Int32) (v8 : Int32) (v9 : Int32) (m : ej_M) {x : ((Int32 × Int32 × Int32 × ej_M) ⊕ (Int32 × ej_M))} {res : Option Value × ej_H} {K : ((Int32 × Int32 × Int32 × ej_M) ⊕ (Int32 × ej_M)) → Prop} (hf : f_X2_value_L29b v1 v2 v3 v4 v5 v6 v7 v8 v9 m = some x) (hK : K x) (h1 : ∀ q : (Int32 × Int32 × Int32 × ej_M), K (Sum.inl q) → ej_Z cX2_value 12 (some .int) RX2 "value" (e + 1) 29 [(0, .ref 1), (1, .int v1), (2, .int v2), (3, .int v3), (4, .int v4), (5, .int v5), (6, .int v6), (7, .int q.1), (8, .int q.2.1), (9, .int q.2.2.1)] [] (ej_sh, q.2.2.2) res) (h0 : ∀ q : (Int32 × ej_M), K (Sum.inr q) → res = (some (Value.int q.1), (ej_sh, q.2))) : ej_Z cX2_value 12 (some .int) RX2 "value" (e + 1) 29 [(0, .ref 1), (1, .int v1), (2, .int v2), (3, .int v3), (4, .int v4), (5, .int v5), (6, .int v6), (7, .int v7), (8, .int v8), (9, .int v9)] [] (ej_sh, m) res := by
  unfold f_X2_value_L29b at hf
  refine z_iload (pc := 29) (i := 9) (j := 9) dX2_value_29 rfl ?_
  refine z_aload_n (pc := 31) (i := 0) (j := 0) dX2_value_31 rfl rfl ?_
  refine z_ogetI (pc := 32) dX2_value_32 lf_RX2_52 sh_1 rfl rfl ?_
  refine z_icmp_ge (pc := 35) (tgt := 246) dX2_value_35 (by decide) (fun hc => ?_) (fun hc => ?_)
  · rw [if_pos hc] at hf
    refine z_iconst (pc := 246) dX2_value_246 ki_0 ?_
    obtain rfl := Option.some.inj hf
    rw [h0 _ hK]
    exact z_iret dX2_value_247 rfl rfl
  · rw [if_neg hc] at hf
    refine z_aload_n (pc := 38) (i := 0) (j := 0) dX2_value_38 rfl rfl ?_
    refine z_ogetR (pc := 39) dX2_value_39 lf_RX2_18 sh_1 rfl rfl rfl ?_
    refine z_iload (pc := 42) (i := 9) (j := 9) dX2_value_42 rfl ?_
    obtain ⟨q1, hq1, hf⟩ := Option.bind_eq_some_iff.mp hf
    refine z_oSi (pc := 44) (as := [.ref 4, .int v9]) (rest := []) dX2_value_44 lm_RX2_107 mf_X10_at ms_X10_at rfl rfl (Nat.le_of_ble_eq_true rfl) (c_X10_at e (by omega) 4 v9 m hq1) ?_
    refine z_istore (pc := 47) (i := 10) (ls' := [(10, .int q1.1), (0, .ref 1), (1, .int v1), (2, .int v2), (3, .int v3), (4, .int v4), (5, .int v5), (6, .int v6), (7, .int v7), (8, .int v8), (9, .int v9)]) dX2_value_47 (Nat.le_of_ble_eq_true rfl) rfl ?_
    refine z_iload (pc := 49) (i := 10) (j := 0) dX2_value_49 rfl ?_
    refine z_ldcS (pc := 51) (i := 0) (tx := "wlrkns") dX2_value_51 (by decide +kernel) ?_
    obtain ⟨w2, hw2, hf⟩ := Option.bind_eq_some_iff.mp hf
    obtain ⟨q3, hq3, hf⟩ := Option.bind_eq_some_iff.mp hf
    refine z_oVi (pc := 53) (as := []) (rest := [.int q1.1]) dX2_value_53 lm_RX2_111 mf_J0_length_8abf5 mi_J0_length_8abf5 mv_J0_length_8abf5 (ej_RCS hw2) rfl rfl (Nat.le_of_ble_eq_true rfl) (c_J0_length_8abf5 e (by omega) (2000) q1.2 hq3) ?_
    refine z_ineg (pc := 56) dX2_value_56 ?_
    refine z_icmp_lt (pc := 57) (tgt := 101) dX2_value_57 (by decide) (fun hc => ?_) (fun hc => ?_)
    · rw [if_pos hc] at hf
      refine z_iload (pc := 101) (i := 10) (j := 0) dX2_value_101 rfl ?_
      refine z_bipush (pc := 103) dX2_value_103 kb_n33 ?_
      refine z_icmp_eq (pc := 105) (tgt := 115) dX2_value_105 (by decide) (fun hc => ?_) (fun hc => ?_)
      · rw [if_pos hc] at hf
        exact z_pick [1, 2, 3, 4, 5, 6, 7, 8, 9, 10, 0] rfl (b_X2_value_B115 e hd v1 v2 v3 v4 v5 v6 v7 v8 v9 q1.1 q3.2 (K := K) hf hK h1 h0)
      · rw [if_neg hc] at hf
        refine z_iload (pc := 108) (i := 10) (j := 0) dX2_value_108 rfl ?_
        refine z_bipush (pc := 110) dX2_value_110 kb_n126 ?_
        refine z_icmp_ne (pc := 112) (tgt := 146) dX2_value_112 (by decide) (fun hc => ?_) (fun hc => ?_)
        · rw [if_neg hc] at hf
          refine z_iinc (pc := 146) (j := 8) (ls' := [(7, .int (v7 + (-1))), (10, .int q1.1), (0, .ref 1), (1, .int v1), (2, .int v2), (3, .int v3), (4, .int v4), (5, .int v5), (6, .int v6), (8, .int v8), (9, .int v9)]) dX2_value_146 rfl ki_n1 (Nat.le_of_ble_eq_true rfl) rfl ?_
          refine z_aload_n (pc := 149) (i := 0) (j := 2) dX2_value_149 rfl rfl ?_
          refine z_ogetR (pc := 150) dX2_value_150 lf_RX2_21 sh_1 rfl rfl rfl ?_
          refine z_iload (pc := 153) (i := 7) (j := 0) dX2_value_153 rfl ?_
          obtain ⟨q4, hq4, hf⟩ := Option.bind_eq_some_iff.mp hf
          refine z_oSi (pc := 155) (as := [.ref 5, .int (v7 + (-1))]) (rest := []) dX2_value_155 lm_RX2_107 mf_X10_at ms_X10_at rfl rfl (Nat.le_of_ble_eq_true rfl) (c_X10_at e (by omega) 5 (v7 + (-1)) q3.2 hq4) ?_
          refine z_istore (pc := 158) (i := 11) (ls' := [(11, .int q4.1), (7, .int (v7 + (-1))), (10, .int q1.1), (0, .ref 1), (1, .int v1), (2, .int v2), (3, .int v3), (4, .int v4), (5, .int v5), (6, .int v6), (8, .int v8), (9, .int v9)]) dX2_value_158 (Nat.le_of_ble_eq_true rfl) rfl ?_
          refine z_iload (pc := 160) (i := 10) (j := 2) dX2_value_160 rfl ?_
          refine z_bipush (pc := 162) dX2_value_162 kb_n59 ?_
          refine z_icmp_ne (pc := 164) (tgt := 175) dX2_value_164 (by decide) (fun hc => ?_) (fun hc => ?_)
          · rw [if_neg hc] at hf
            exact z_pick [3, 4, 5, 6, 7, 8, 9, 1, 10, 11, 2, 0] rfl (b_X2_value_B175 e hd v1 v2 v3 v4 v5 v6 (v7 + (-1)) v8 v9 q1.1 q4.1 q4.2 (K := K) hf hK h1 h0)
          · rw [if_pos hc] at hf
            refine z_iload (pc := 167) (i := 8) (j := 10) dX2_value_167 rfl ?_
            refine z_if_eq (pc := 169) (tgt := 175) dX2_value_169 (by decide) (fun hc => ?_) (fun hc => ?_)
            · rw [if_pos hc] at hf
              exact z_pick [3, 4, 5, 6, 7, 8, 9, 1, 10, 11, 2, 0] rfl (b_X2_value_B175 e hd v1 v2 v3 v4 v5 v6 (v7 + (-1)) v8 v9 q1.1 q4.1 q4.2 (K := K) hf hK h1 h0)
            · rw [if_neg hc] at hf
              refine z_iload (pc := 172) (i := 11) (j := 0) dX2_value_172 rfl ?_
              obtain rfl := Option.some.inj hf
              rw [h0 _ hK]
              exact z_iret dX2_value_174 rfl rfl
        · rw [if_pos hc] at hf
          exact z_pick [1, 2, 3, 4, 5, 6, 7, 8, 9, 10, 0] rfl (b_X2_value_B115 e hd v1 v2 v3 v4 v5 v6 v7 v8 v9 q1.1 q3.2 (K := K) hf hK h1 h0)
    · rw [if_neg hc] at hf
      refine z_aload_n (pc := 60) (i := 0) (j := 1) dX2_value_60 rfl rfl ?_
      refine z_ogetR (pc := 61) dX2_value_61 lf_RX2_21 sh_1 rfl rfl rfl ?_
      refine z_iload (pc := 64) (i := 7) (j := 8) dX2_value_64 rfl ?_
      refine z_iload (pc := 66) (i := 10) (j := 0) dX2_value_66 rfl ?_
      refine z_if_lt (pc := 68) (tgt := 76) dX2_value_68 (by decide) (fun hc => ?_) (fun hc => ?_)
      · rw [if_pos hc] at hf
        refine z_iconst (pc := 76) dX2_value_76 ki_n1 ?_
        refine z_iload (pc := 77) (i := 10) (j := 0) dX2_value_77 rfl ?_
        refine z_isub (pc := 79) dX2_value_79 ?_
        refine z_iload_n (pc := 80) (i := 1) (j := 2) dX2_value_80 rfl rfl ?_
        refine z_iload_n (pc := 81) (i := 2) (j := 3) dX2_value_81 rfl rfl ?_
        refine z_iload_n (pc := 82) (i := 3) (j := 4) dX2_value_82 rfl rfl ?_
        refine z_iload (pc := 83) (i := 4) (j := 5) dX2_value_83 rfl ?_
        refine z_iload (pc := 85) (i := 5) (j := 6) dX2_value_85 rfl ?_
        refine z_iload (pc := 87) (i := 6) (j := 7) dX2_value_87 rfl ?_
        obtain ⟨q5, hq5, hf⟩ := Option.bind_eq_some_iff.mp hf
        refine z_oSi (pc := 89) (as := [.int ((-1) - q1.1), .int v1, .int v2, .int v3, .int v4, .int v5, .int v6]) (rest := [.int v7, .ref 5]) dX2_value_89 lm_RX2_113 mf_X2_named ms_X2_named rfl rfl (Nat.le_of_ble_eq_true rfl) (c_X2_named e (by omega) ((-1) - q1.1) v1 v2 v3 v4 v5 v6 q3.2 hq5) ?_
        exact z_pick [1, 2, 3, 4, 5, 6, 7, 8, 9, 10] rfl (b_X2_value_B92 e hd v1 v2 v3 v4 v5 v6 v7 v8 v9 q5.1 v7 q5.2 (K := K) hf hK h1 h0)
      · rw [if_neg hc] at hf
        refine z_iload (pc := 71) (i := 10) (j := 0) dX2_value_71 rfl ?_
        refine z_goto (pc := 73) (tgt := 92) dX2_value_73 (by decide) ?_
        exact z_pick [1, 2, 3, 4, 5, 6, 7, 8, 9, 10] rfl (b_X2_value_B92 e hd v1 v2 v3 v4 v5 v6 v7 v8 v9 q1.1 v7 q3.2 (K := K) hf hK h1 h0)
def f_X2_value_L29 (v1 : Int32) (v2 : Int32) (v3 : Int32) (v4 : Int32) (v5 : Int32) (v6 : Int32) (v7 : Int32) (v8 : Int32) (v9 : Int32) (m : ej_M) : Option (Int32 × ej_M) := oj_loop (fun q : (Int32 × Int32 × Int32 × ej_M) => f_X2_value_L29b v1 v2 v3 v4 v5 v6 q.1 q.2.1 q.2.2.1 q.2.2.2) oj_FU (v7, v8, v9, m)
set_option maxHeartbeats 4000000 in
set_option maxRecDepth 100000 in
theorem b_X2_value_L29 (e : Nat) (hd : 1 ≤ e) (v1 : Int32) (v2 : Int32) (v3 : Int32) (v4 : Int32) (v5 : Int32) (v6 : Int32) (v7 : Int32) (v8 : Int32) (v9 : Int32) (m : ej_M) {x : (Int32 × ej_M)} {res : Option Value × ej_H} {K : (Int32 × ej_M) → Prop} (hf : f_X2_value_L29 v1 v2 v3 v4 v5 v6 v7 v8 v9 m = some x) (hK : K x) (h0 : ∀ q : (Int32 × ej_M), K q → res = (some (Value.int q.1), (ej_sh, q.2))) : ej_Z cX2_value 12 (some .int) RX2 "value" (e + 1) 29 [(0, .ref 1), (1, .int v1), (2, .int v2), (3, .int v3), (4, .int v4), (5, .int v5), (6, .int v6), (7, .int v7), (8, .int v8), (9, .int v9)] [] (ej_sh, m) res :=
  oj_loop_Z (body := fun q : (Int32 × Int32 × Int32 × ej_M) => f_X2_value_L29b v1 v2 v3 v4 v5 v6 q.1 q.2.1 q.2.2.1 q.2.2.2) (P := fun q : (Int32 × Int32 × Int32 × ej_M) => ej_Z cX2_value 12 (some .int) RX2 "value" (e + 1) 29 [(0, .ref 1), (1, .int v1), (2, .int v2), (3, .int v3), (4, .int v4), (5, .int v5), (6, .int v6), (7, .int q.1), (8, .int q.2.1), (9, .int q.2.2.1)] [] (ej_sh, q.2.2.2) res) (K := K) (fun s x hb hl hr => b_X2_value_L29b e hd v1 v2 v3 v4 v5 v6  s.1 s.2.1 s.2.2.1 s.2.2.2 (K := fun x => (∀ s' : (Int32 × Int32 × Int32 × ej_M), x = Sum.inl s' → ej_Z cX2_value 12 (some .int) RX2 "value" (e + 1) 29 [(0, .ref 1), (1, .int v1), (2, .int v2), (3, .int v3), (4, .int v4), (5, .int v5), (6, .int v6), (7, .int s'.1), (8, .int s'.2.1), (9, .int s'.2.2.1)] [] (ej_sh, s'.2.2.2) res) ∧ ∀ e, x = Sum.inr e → K e) hb ⟨hl, hr⟩ (fun q hq => hq.1 q rfl) (fun q hq => h0 q (hq.2 _ rfl))) oj_FU (v7, v8, v9, m) x hf hK
def f_X2_value (v1 : Int32) (v2 : Int32) (v3 : Int32) (v4 : Int32) (v5 : Int32) (v6 : Int32) (m : ej_M) : Option (Int32 × ej_M) :=
  if (m.1 1 6) = 0 then
    if (v2 + v3) < v1 then
      some (0, m)
    else
      some (1, m)
  else
    f_X2_value_L29 v1 v2 v3 v4 v5 v6 0 1 0 m
set_option maxHeartbeats 4000000 in
set_option maxRecDepth 100000 in
theorem b_X2_value (e : Nat) (hd : 1 ≤ e) (v1 : Int32) (v2 : Int32) (v3 : Int32) (v4 : Int32) (v5 : Int32) (v6 : Int32) (m : ej_M) {x : (Int32 × ej_M)} {res : Option Value × ej_H} {K : (Int32 × ej_M) → Prop} (hf : f_X2_value v1 v2 v3 v4 v5 v6 m = some x) (hK : K x) (h0 : ∀ q : (Int32 × ej_M), K q → res = (some (Value.int q.1), (ej_sh, q.2))) : ej_Z cX2_value 12 (some .int) RX2 "value" (e + 1) 0 [(0, .ref 1), (1, .int v1), (2, .int v2), (3, .int v3), (4, .int v4), (5, .int v5), (6, .int v6)] [] (ej_sh, m) res := by
  unfold f_X2_value at hf
  refine z_aload_n (pc := 0) (i := 0) (j := 0) dX2_value_0 rfl rfl ?_
  refine z_ogetI (pc := 1) dX2_value_1 lf_RX2_52 sh_1 rfl rfl ?_
  refine z_if_ne (pc := 4) (tgt := 20) dX2_value_4 (by decide) (fun hc => ?_) (fun hc => ?_)
  · rw [if_neg hc] at hf
    refine z_iconst (pc := 20) dX2_value_20 ki_0 ?_
    refine z_istore (pc := 21) (i := 7) (ls' := [(7, .int 0), (0, .ref 1), (1, .int v1), (2, .int v2), (3, .int v3), (4, .int v4), (5, .int v5), (6, .int v6)]) dX2_value_21 (Nat.le_of_ble_eq_true rfl) rfl ?_
    refine z_iconst (pc := 23) dX2_value_23 ki_1 ?_
    refine z_istore (pc := 24) (i := 8) (ls' := [(8, .int 1), (7, .int 0), (0, .ref 1), (1, .int v1), (2, .int v2), (3, .int v3), (4, .int v4), (5, .int v5), (6, .int v6)]) dX2_value_24 (Nat.le_of_ble_eq_true rfl) rfl ?_
    refine z_iconst (pc := 26) dX2_value_26 ki_0 ?_
    refine z_istore (pc := 27) (i := 9) (ls' := [(9, .int 0), (8, .int 1), (7, .int 0), (0, .ref 1), (1, .int v1), (2, .int v2), (3, .int v3), (4, .int v4), (5, .int v5), (6, .int v6)]) dX2_value_27 (Nat.le_of_ble_eq_true rfl) rfl ?_
    exact z_pick [3, 4, 5, 6, 7, 8, 9, 2, 1, 0] rfl (b_X2_value_L29 e hd v1 v2 v3 v4 v5 v6 0 1 0 m (K := K) hf hK  h0)
  · rw [if_pos hc] at hf
    refine z_iload_n (pc := 7) (i := 1) (j := 1) dX2_value_7 rfl rfl ?_
    refine z_iload_n (pc := 8) (i := 2) (j := 2) dX2_value_8 rfl rfl ?_
    refine z_iload_n (pc := 9) (i := 3) (j := 3) dX2_value_9 rfl rfl ?_
    refine z_iadd (pc := 10) dX2_value_10 ?_
    refine z_icmp_gt (pc := 11) (tgt := 18) dX2_value_11 (by decide) (fun hc => ?_) (fun hc => ?_)
    · rw [if_pos hc] at hf
      refine z_iconst (pc := 18) dX2_value_18 ki_0 ?_
      obtain rfl := Option.some.inj hf
      rw [h0 _ hK]
      exact z_iret dX2_value_19 rfl rfl
    · rw [if_neg hc] at hf
      refine z_iconst (pc := 14) dX2_value_14 ki_1 ?_
      refine z_goto (pc := 15) (tgt := 19) dX2_value_15 (by decide) ?_
      obtain rfl := Option.some.inj hf
      rw [h0 _ hK]
      exact z_iret dX2_value_19 rfl rfl
set_option maxHeartbeats 4000000 in
set_option maxRecDepth 100000 in
theorem c_X2_value (d : Nat) (hd : 2 ≤ d) (v1 : Int32) (v2 : Int32) (v3 : Int32) (v4 : Int32) (v5 : Int32) (v6 : Int32) (m : ej_M) {q : (Int32 × ej_M)} (hf : f_X2_value v1 v2 v3 v4 v5 v6 m = some q) : ej_Ct yX2_value cX2_value 12 (some .int) d [.ref 1, .int v1, .int v2, .int v3, .int v4, .int v5, .int v6] (ej_sh, m) ((some (Value.int q.1), (ej_sh, q.2)) : Option Value × ej_H) := by
  obtain ⟨e, rfl⟩ : ∃ e, d = e + 1 := ⟨d - 1, by omega⟩
  exact z_met (by decide +kernel) (Nat.le_of_ble_eq_true rfl) (b_X2_value e (by omega) v1 v2 v3 v4 v5 v6 m (K := fun z => ((some (Value.int q.1), (ej_sh, q.2)) : Option Value × ej_H) = (some (Value.int z.1), (ej_sh, z.2))) hf rfl (fun _ h => h))
def f_X4_placeBeside_B19 (v2 : Int32) (v4 : Int32) (m : ej_M) : Option (Int32 × ej_M) :=
  if (m.1 6 5) = 0 then
    some ((-1), m)
  else
    if 0 ≤ v4 then
      some (0, m)
    else
      some ((v2 - 1), m)
set_option maxHeartbeats 4000000 in
set_option maxRecDepth 100000 in
theorem b_X4_placeBeside_B19 (d : Nat) (v2 : Int32) (v4 : Int32) (m : ej_M) {x : (Int32 × ej_M)} {res : Option Value × ej_H} {K : (Int32 × ej_M) → Prop} (hf : f_X4_placeBeside_B19 v2 v4 m = some x) (hK : K x) (h0 : ∀ q : (Int32 × ej_M), K q → res = (some (Value.int q.1), (ej_sh, q.2))) : ej_Z cX4_placeBeside 5 (some .int) RX4 "placeBeside" d 19 [(0, .ref 6), (2, .int v2), (4, .int v4)] [] (ej_sh, m) res := by
  unfold f_X4_placeBeside_B19 at hf
  refine z_aload_n (pc := 19) (i := 0) (j := 0) dX4_placeBeside_19 rfl rfl ?_
  refine z_ogetI (pc := 20) dX4_placeBeside_20 lf_RX4_69 sh_6 rfl rfl ?_
  refine z_if_ne (pc := 23) (tgt := 28) dX4_placeBeside_23 (by decide) (fun hc => ?_) (fun hc => ?_)
  · rw [if_neg hc] at hf
    refine z_iload (pc := 28) (i := 4) (j := 2) dX4_placeBeside_28 rfl ?_
    refine z_if_ge (pc := 30) (tgt := 39) dX4_placeBeside_30 (by decide) (fun hc => ?_) (fun hc => ?_)
    · rw [if_pos hc] at hf
      refine z_iconst (pc := 39) dX4_placeBeside_39 ki_0 ?_
      obtain rfl := Option.some.inj hf
      rw [h0 _ hK]
      exact z_iret dX4_placeBeside_40 rfl rfl
    · rw [if_neg hc] at hf
      refine z_iload_n (pc := 33) (i := 2) (j := 1) dX4_placeBeside_33 rfl rfl ?_
      refine z_iconst (pc := 34) dX4_placeBeside_34 ki_1 ?_
      refine z_isub (pc := 35) dX4_placeBeside_35 ?_
      refine z_goto (pc := 36) (tgt := 40) dX4_placeBeside_36 (by decide) ?_
      obtain rfl := Option.some.inj hf
      rw [h0 _ hK]
      exact z_iret dX4_placeBeside_40 rfl rfl
  · rw [if_pos hc] at hf
    refine z_iconst (pc := 26) dX4_placeBeside_26 ki_n1 ?_
    obtain rfl := Option.some.inj hf
    rw [h0 _ hK]
    exact z_iret dX4_placeBeside_27 rfl rfl
def f_X4_placeBeside (v1 : Int32) (v2 : Int32) (v3 : Int32) (m : ej_M) : Option (Int32 × ej_M) :=
  if (v1 + v3) < 0 then
    f_X4_placeBeside_B19 v2 (v1 + v3) m
  else
    if v2 ≤ (v1 + v3) then
      f_X4_placeBeside_B19 v2 (v1 + v3) m
    else
      some ((v1 + v3), m)
set_option maxHeartbeats 4000000 in
set_option maxRecDepth 100000 in
theorem b_X4_placeBeside (d : Nat) (v1 : Int32) (v2 : Int32) (v3 : Int32) (m : ej_M) {x : (Int32 × ej_M)} {res : Option Value × ej_H} {K : (Int32 × ej_M) → Prop} (hf : f_X4_placeBeside v1 v2 v3 m = some x) (hK : K x) (h0 : ∀ q : (Int32 × ej_M), K q → res = (some (Value.int q.1), (ej_sh, q.2))) : ej_Z cX4_placeBeside 5 (some .int) RX4 "placeBeside" d 0 [(0, .ref 6), (1, .int v1), (2, .int v2), (3, .int v3)] [] (ej_sh, m) res := by
  unfold f_X4_placeBeside at hf
  refine z_iload_n (pc := 0) (i := 1) (j := 1) dX4_placeBeside_0 rfl rfl ?_
  refine z_iload_n (pc := 1) (i := 3) (j := 3) dX4_placeBeside_1 rfl rfl ?_
  refine z_iadd (pc := 2) dX4_placeBeside_2 ?_
  refine z_istore (pc := 3) (i := 4) (ls' := [(4, .int (v1 + v3)), (0, .ref 6), (1, .int v1), (2, .int v2), (3, .int v3)]) dX4_placeBeside_3 (Nat.le_of_ble_eq_true rfl) rfl ?_
  refine z_iload (pc := 5) (i := 4) (j := 0) dX4_placeBeside_5 rfl ?_
  refine z_if_lt (pc := 7) (tgt := 19) dX4_placeBeside_7 (by decide) (fun hc => ?_) (fun hc => ?_)
  · rw [if_pos hc] at hf
    exact z_pick [1, 3, 0] rfl (b_X4_placeBeside_B19 d v2 (v1 + v3) m (K := K) hf hK  h0)
  · rw [if_neg hc] at hf
    refine z_iload (pc := 10) (i := 4) (j := 0) dX4_placeBeside_10 rfl ?_
    refine z_iload_n (pc := 12) (i := 2) (j := 3) dX4_placeBeside_12 rfl rfl ?_
    refine z_icmp_ge (pc := 13) (tgt := 19) dX4_placeBeside_13 (by decide) (fun hc => ?_) (fun hc => ?_)
    · rw [if_pos hc] at hf
      exact z_pick [1, 3, 0] rfl (b_X4_placeBeside_B19 d v2 (v1 + v3) m (K := K) hf hK  h0)
    · rw [if_neg hc] at hf
      refine z_iload (pc := 16) (i := 4) (j := 0) dX4_placeBeside_16 rfl ?_
      obtain rfl := Option.some.inj hf
      rw [h0 _ hK]
      exact z_iret dX4_placeBeside_18 rfl rfl
set_option maxHeartbeats 4000000 in
set_option maxRecDepth 100000 in
theorem c_X4_placeBeside (d : Nat) (hd : 0 ≤ d) (v1 : Int32) (v2 : Int32) (v3 : Int32) (m : ej_M) {q : (Int32 × ej_M)} (hf : f_X4_placeBeside v1 v2 v3 m = some q) : ej_Ct yX4_placeBeside cX4_placeBeside 5 (some .int) d [.ref 6, .int v1, .int v2, .int v3] (ej_sh, m) ((some (Value.int q.1), (ej_sh, q.2)) : Option Value × ej_H) := by
  exact z_met (by decide +kernel) (Nat.le_of_ble_eq_true rfl) (b_X4_placeBeside d v1 v2 v3 m (K := fun z => ((some (Value.int q.1), (ej_sh, q.2)) : Option Value × ej_H) = (some (Value.int z.1), (ej_sh, z.2))) hf rfl (fun _ h => h))
def f_X4_slotOf (v0 : Int32) (v1 : Int32) (v2 : Int32) (v3 : Int32) (m : ej_M) : Option (Int32 × ej_M) :=
  if v1 = 8 then
    some ((-1), m)
  else
    if v2 = 8 then
      some ((-1), m)
    else
      if v3 = 8 then
        some ((-1), m)
      else
        some (((((((((v0 * 9) + v2) + 1) * 8) + v1) * 9) + v3) + 1), m)
set_option maxHeartbeats 4000000 in
set_option maxRecDepth 100000 in
theorem b_X4_slotOf (d : Nat) (v0 : Int32) (v1 : Int32) (v2 : Int32) (v3 : Int32) (m : ej_M) {x : (Int32 × ej_M)} {res : Option Value × ej_H} {K : (Int32 × ej_M) → Prop} (hf : f_X4_slotOf v0 v1 v2 v3 m = some x) (hK : K x) (h0 : ∀ q : (Int32 × ej_M), K q → res = (some (Value.int q.1), (ej_sh, q.2))) : ej_Z cX4_slotOf 4 (some .int) RX4 "slotOf" d 0 [(0, .int v0), (1, .int v1), (2, .int v2), (3, .int v3)] [] (ej_sh, m) res := by
  unfold f_X4_slotOf at hf
  refine z_iload_n (pc := 0) (i := 1) (j := 1) dX4_slotOf_0 rfl rfl ?_
  refine z_bipush (pc := 1) dX4_slotOf_1 kb_8 ?_
  refine z_icmp_eq (pc := 3) (tgt := 18) dX4_slotOf_3 (by decide) (fun hc => ?_) (fun hc => ?_)
  · rw [if_pos hc] at hf
    refine z_iconst (pc := 18) dX4_slotOf_18 ki_n1 ?_
    obtain rfl := Option.some.inj hf
    rw [h0 _ hK]
    exact z_iret dX4_slotOf_19 rfl rfl
  · rw [if_neg hc] at hf
    refine z_iload_n (pc := 6) (i := 2) (j := 2) dX4_slotOf_6 rfl rfl ?_
    refine z_bipush (pc := 7) dX4_slotOf_7 kb_8 ?_
    refine z_icmp_eq (pc := 9) (tgt := 18) dX4_slotOf_9 (by decide) (fun hc => ?_) (fun hc => ?_)
    · rw [if_pos hc] at hf
      refine z_iconst (pc := 18) dX4_slotOf_18 ki_n1 ?_
      obtain rfl := Option.some.inj hf
      rw [h0 _ hK]
      exact z_iret dX4_slotOf_19 rfl rfl
    · rw [if_neg hc] at hf
      refine z_iload_n (pc := 12) (i := 3) (j := 3) dX4_slotOf_12 rfl rfl ?_
      refine z_bipush (pc := 13) dX4_slotOf_13 kb_8 ?_
      refine z_icmp_ne (pc := 15) (tgt := 20) dX4_slotOf_15 (by decide) (fun hc => ?_) (fun hc => ?_)
      · rw [if_neg hc] at hf
        refine z_iload_n (pc := 20) (i := 0) (j := 0) dX4_slotOf_20 rfl rfl ?_
        refine z_bipush (pc := 21) dX4_slotOf_21 kb_9 ?_
        refine z_imul (pc := 23) dX4_slotOf_23 ?_
        refine z_iload_n (pc := 24) (i := 2) (j := 2) dX4_slotOf_24 rfl rfl ?_
        refine z_iadd (pc := 25) dX4_slotOf_25 ?_
        refine z_iconst (pc := 26) dX4_slotOf_26 ki_1 ?_
        refine z_iadd (pc := 27) dX4_slotOf_27 ?_
        refine z_bipush (pc := 28) dX4_slotOf_28 kb_8 ?_
        refine z_imul (pc := 30) dX4_slotOf_30 ?_
        refine z_iload_n (pc := 31) (i := 1) (j := 1) dX4_slotOf_31 rfl rfl ?_
        refine z_iadd (pc := 32) dX4_slotOf_32 ?_
        refine z_bipush (pc := 33) dX4_slotOf_33 kb_9 ?_
        refine z_imul (pc := 35) dX4_slotOf_35 ?_
        refine z_iload_n (pc := 36) (i := 3) (j := 3) dX4_slotOf_36 rfl rfl ?_
        refine z_iadd (pc := 37) dX4_slotOf_37 ?_
        refine z_iconst (pc := 38) dX4_slotOf_38 ki_1 ?_
        refine z_iadd (pc := 39) dX4_slotOf_39 ?_
        obtain rfl := Option.some.inj hf
        rw [h0 _ hK]
        exact z_iret dX4_slotOf_40 rfl rfl
      · rw [if_pos hc] at hf
        refine z_iconst (pc := 18) dX4_slotOf_18 ki_n1 ?_
        obtain rfl := Option.some.inj hf
        rw [h0 _ hK]
        exact z_iret dX4_slotOf_19 rfl rfl
set_option maxHeartbeats 4000000 in
set_option maxRecDepth 100000 in
theorem c_X4_slotOf (d : Nat) (hd : 0 ≤ d) (v0 : Int32) (v1 : Int32) (v2 : Int32) (v3 : Int32) (m : ej_M) {q : (Int32 × ej_M)} (hf : f_X4_slotOf v0 v1 v2 v3 m = some q) : ej_Ct yX4_slotOf cX4_slotOf 4 (some .int) d [.int v0, .int v1, .int v2, .int v3] (ej_sh, m) ((some (Value.int q.1), (ej_sh, q.2)) : Option Value × ej_H) := by
  exact z_met (by decide +kernel) (Nat.le_of_ble_eq_true rfl) (b_X4_slotOf d v0 v1 v2 v3 m (K := fun z => ((some (Value.int q.1), (ej_sh, q.2)) : Option Value × ej_H) = (some (Value.int z.1), (ej_sh, z.2))) hf rfl (fun _ h => h))
def f_X4_isLawfulAt_B173 (v10 : Int32) (m : ej_M) : Option (Int32 × ej_M) :=
  if (v10 &&& 1) = 1 then
    some (1, m)
  else
    some (0, m)
set_option maxHeartbeats 4000000 in
set_option maxRecDepth 100000 in
theorem b_X4_isLawfulAt_B173 (e : Nat) (hd : 2 ≤ e) (v10 : Int32) (m : ej_M) {x : (Int32 × ej_M)} {res : Option Value × ej_H} {K : (Int32 × ej_M) → Prop} (hf : f_X4_isLawfulAt_B173 v10 m = some x) (hK : K x) (h0 : ∀ q : (Int32 × ej_M), K q → res = (some (Value.int q.1), (ej_sh, q.2))) : ej_Z cX4_isLawfulAt 12 (some .boolean) RX4 "isLawfulAt" (e + 1) 173 [(10, .int v10)] [] (ej_sh, m) res := by
  unfold f_X4_isLawfulAt_B173 at hf
  refine z_iload (pc := 173) (i := 10) (j := 0) dX4_isLawfulAt_173 rfl ?_
  refine z_iconst (pc := 175) dX4_isLawfulAt_175 ki_1 ?_
  refine z_iand (pc := 176) dX4_isLawfulAt_176 ?_
  refine z_iconst (pc := 177) dX4_isLawfulAt_177 ki_1 ?_
  refine z_icmp_ne (pc := 178) (tgt := 185) dX4_isLawfulAt_178 (by decide) (fun hc => ?_) (fun hc => ?_)
  · rw [if_neg hc] at hf
    refine z_iconst (pc := 185) dX4_isLawfulAt_185 ki_0 ?_
    obtain rfl := Option.some.inj hf
    rw [h0 _ hK]
    exact z_iret dX4_isLawfulAt_186 rfl rfl
  · rw [if_pos hc] at hf
    refine z_iconst (pc := 181) dX4_isLawfulAt_181 ki_1 ?_
    refine z_goto (pc := 182) (tgt := 186) dX4_isLawfulAt_182 (by decide) ?_
    obtain rfl := Option.some.inj hf
    rw [h0 _ hK]
    exact z_iret dX4_isLawfulAt_186 rfl rfl
def f_X4_isLawfulAt_B159 (v9 : Int32) (s0 : Int32) (s1 : Int32) (m : ej_M) : Option (Int32 × ej_M) :=
  (f_X10_lay 10 v9 (s1 + s0) m).bind fun q1 =>
  f_X4_isLawfulAt_B173 (s1 + s0) q1.2
set_option maxHeartbeats 4000000 in
set_option maxRecDepth 100000 in
theorem b_X4_isLawfulAt_B159 (e : Nat) (hd : 2 ≤ e) (v9 : Int32) (s0 : Int32) (s1 : Int32) (m : ej_M) {x : (Int32 × ej_M)} {res : Option Value × ej_H} {K : (Int32 × ej_M) → Prop} (hf : f_X4_isLawfulAt_B159 v9 s0 s1 m = some x) (hK : K x) (h0 : ∀ q : (Int32 × ej_M), K q → res = (some (Value.int q.1), (ej_sh, q.2))) : ej_Z cX4_isLawfulAt 12 (some .boolean) RX4 "isLawfulAt" (e + 1) 159 [(0, .ref 6), (9, .int v9)] [.int s0, .int s1] (ej_sh, m) res := by
  unfold f_X4_isLawfulAt_B159 at hf
  refine z_iadd (pc := 159) dX4_isLawfulAt_159 ?_
  refine z_istore (pc := 160) (i := 10) (ls' := [(10, .int (s1 + s0)), (0, .ref 6), (9, .int v9)]) dX4_isLawfulAt_160 (Nat.le_of_ble_eq_true rfl) rfl ?_
  refine z_aload_n (pc := 162) (i := 0) (j := 1) dX4_isLawfulAt_162 rfl rfl ?_
  refine z_ogetR (pc := 163) dX4_isLawfulAt_163 lf_RX4_21 sh_6 rfl rfl rfl ?_
  refine z_iload (pc := 166) (i := 9) (j := 2) dX4_isLawfulAt_166 rfl ?_
  refine z_iload (pc := 168) (i := 10) (j := 0) dX4_isLawfulAt_168 rfl ?_
  obtain ⟨q1, hq1, hf⟩ := Option.bind_eq_some_iff.mp hf
  refine z_oSv (pc := 170) (as := [.ref 10, .int v9, .int (s1 + s0)]) (rest := []) dX4_isLawfulAt_170 lm_RX4_50 mf_X10_lay ms_X10_lay rfl rfl (Nat.le_of_ble_eq_true rfl) (c_X10_lay e (by omega) 10 v9 (s1 + s0) m hq1) ?_
  exact z_pick [0] rfl (b_X4_isLawfulAt_B173 e hd (s1 + s0) q1.2 (K := K) hf hK  h0)
def f_X4_isLawfulAt_B78 (v2 : Int32) (v3 : Int32) (v6 : Int32) (v7 : Int32) (v8 : Int32) (m : ej_M) : Option (Int32 × ej_M) :=
  (f_X4_slotOf v3 v6 v7 v8 m).bind fun q1 =>
  (f_X10_at 10 q1.1 q1.2).bind fun q2 =>
  if (q2.1 >>> (1 &&& 31)) = (q2.2.1 6 14) then
    f_X4_isLawfulAt_B173 q2.1 q2.2
  else
    (f_X4_weightOf v6 q2.2).bind fun q3 =>
    (f_X4_weightOf v7 q3.2).bind fun q4 =>
    (f_X4_weightOf v8 q4.2).bind fun q5 =>
    (f_X2_value q3.1 q4.1 q5.1 v3 v2 v6 q5.2).bind fun q6 =>
    if q6.1 = 0 then
      f_X4_isLawfulAt_B159 q1.1 0 ((q6.2.1 6 14) * 2) q6.2
    else
      f_X4_isLawfulAt_B159 q1.1 1 ((q6.2.1 6 14) * 2) q6.2
set_option maxHeartbeats 4000000 in
set_option maxRecDepth 100000 in
theorem b_X4_isLawfulAt_B78 (e : Nat) (hd : 2 ≤ e) (v2 : Int32) (v3 : Int32) (v6 : Int32) (v7 : Int32) (v8 : Int32) (m : ej_M) {x : (Int32 × ej_M)} {res : Option Value × ej_H} {K : (Int32 × ej_M) → Prop} (hf : f_X4_isLawfulAt_B78 v2 v3 v6 v7 v8 m = some x) (hK : K x) (h0 : ∀ q : (Int32 × ej_M), K q → res = (some (Value.int q.1), (ej_sh, q.2))) : ej_Z cX4_isLawfulAt 12 (some .boolean) RX4 "isLawfulAt" (e + 1) 78 [(0, .ref 6), (2, .int v2), (3, .int v3), (6, .int v6), (7, .int v7), (8, .int v8)] [] (ej_sh, m) res := by
  unfold f_X4_isLawfulAt_B78 at hf
  refine z_iload_n (pc := 78) (i := 3) (j := 2) dX4_isLawfulAt_78 rfl rfl ?_
  refine z_iload (pc := 79) (i := 6) (j := 3) dX4_isLawfulAt_79 rfl ?_
  refine z_iload (pc := 81) (i := 7) (j := 4) dX4_isLawfulAt_81 rfl ?_
  refine z_iload (pc := 83) (i := 8) (j := 5) dX4_isLawfulAt_83 rfl ?_
  obtain ⟨q1, hq1, hf⟩ := Option.bind_eq_some_iff.mp hf
  refine z_oSi (pc := 85) (as := [.int v3, .int v6, .int v7, .int v8]) (rest := []) dX4_isLawfulAt_85 lm_RX4_79 mf_X4_slotOf ms_X4_slotOf rfl rfl (Nat.le_of_ble_eq_true rfl) (c_X4_slotOf e (by omega) v3 v6 v7 v8 m hq1) ?_
  refine z_istore (pc := 88) (i := 9) (ls' := [(9, .int q1.1), (0, .ref 6), (2, .int v2), (3, .int v3), (6, .int v6), (7, .int v7), (8, .int v8)]) dX4_isLawfulAt_88 (Nat.le_of_ble_eq_true rfl) rfl ?_
  refine z_aload_n (pc := 90) (i := 0) (j := 1) dX4_isLawfulAt_90 rfl rfl ?_
  refine z_ogetR (pc := 91) dX4_isLawfulAt_91 lf_RX4_21 sh_6 rfl rfl rfl ?_
  refine z_iload (pc := 94) (i := 9) (j := 0) dX4_isLawfulAt_94 rfl ?_
  obtain ⟨q2, hq2, hf⟩ := Option.bind_eq_some_iff.mp hf
  refine z_oSi (pc := 96) (as := [.ref 10, .int q1.1]) (rest := []) dX4_isLawfulAt_96 lm_RX4_46 mf_X10_at ms_X10_at rfl rfl (Nat.le_of_ble_eq_true rfl) (c_X10_at e (by omega) 10 q1.1 q1.2 hq2) ?_
  refine z_istore (pc := 99) (i := 10) (ls' := [(10, .int q2.1), (9, .int q1.1), (0, .ref 6), (2, .int v2), (3, .int v3), (6, .int v6), (7, .int v7), (8, .int v8)]) dX4_isLawfulAt_99 (Nat.le_of_ble_eq_true rfl) rfl ?_
  refine z_iload (pc := 101) (i := 10) (j := 0) dX4_isLawfulAt_101 rfl ?_
  refine z_iconst (pc := 103) dX4_isLawfulAt_103 ki_1 ?_
  refine z_ishr (pc := 104) dX4_isLawfulAt_104 ?_
  refine z_aload_n (pc := 105) (i := 0) (j := 2) dX4_isLawfulAt_105 rfl rfl ?_
  refine z_ogetI (pc := 106) dX4_isLawfulAt_106 lf_RX4_24 sh_6 rfl rfl ?_
  refine z_icmp_eq (pc := 109) (tgt := 173) dX4_isLawfulAt_109 (by decide) (fun hc => ?_) (fun hc => ?_)
  · rw [if_pos hc] at hf
    exact z_pick [0] rfl (b_X4_isLawfulAt_B173 e hd q2.1 q2.2 (K := K) hf hK  h0)
  · rw [if_neg hc] at hf
    refine z_aload_n (pc := 112) (i := 0) (j := 2) dX4_isLawfulAt_112 rfl rfl ?_
    refine z_ogetR (pc := 113) dX4_isLawfulAt_113 lf_RX4_28 sh_6 rfl rfl rfl ?_
    refine z_aload_n (pc := 116) (i := 0) (j := 2) dX4_isLawfulAt_116 rfl rfl ?_
    refine z_iload (pc := 117) (i := 6) (j := 5) dX4_isLawfulAt_117 rfl ?_
    obtain ⟨q3, hq3, hf⟩ := Option.bind_eq_some_iff.mp hf
    refine z_oVi (pc := 119) (as := [.int v6]) (rest := [.ref 1]) dX4_isLawfulAt_119 lm_RX4_83 mf_X4_weightOf mi_X4_weightOf mv_X4_weightOf rc_6 rfl rfl (Nat.le_of_ble_eq_true rfl) (c_X4_weightOf e (by omega) v6 q2.2 hq3) ?_
    refine z_aload_n (pc := 122) (i := 0) (j := 2) dX4_isLawfulAt_122 rfl rfl ?_
    refine z_iload (pc := 123) (i := 7) (j := 6) dX4_isLawfulAt_123 rfl ?_
    obtain ⟨q4, hq4, hf⟩ := Option.bind_eq_some_iff.mp hf
    refine z_oVi (pc := 125) (as := [.int v7]) (rest := [.int q3.1, .ref 1]) dX4_isLawfulAt_125 lm_RX4_83 mf_X4_weightOf mi_X4_weightOf mv_X4_weightOf rc_6 rfl rfl (Nat.le_of_ble_eq_true rfl) (c_X4_weightOf e (by omega) v7 q3.2 hq4) ?_
    refine z_aload_n (pc := 128) (i := 0) (j := 2) dX4_isLawfulAt_128 rfl rfl ?_
    refine z_iload (pc := 129) (i := 8) (j := 7) dX4_isLawfulAt_129 rfl ?_
    obtain ⟨q5, hq5, hf⟩ := Option.bind_eq_some_iff.mp hf
    refine z_oVi (pc := 131) (as := [.int v8]) (rest := [.int q4.1, .int q3.1, .ref 1]) dX4_isLawfulAt_131 lm_RX4_83 mf_X4_weightOf mi_X4_weightOf mv_X4_weightOf rc_6 rfl rfl (Nat.le_of_ble_eq_true rfl) (c_X4_weightOf e (by omega) v8 q4.2 hq5) ?_
    refine z_iload_n (pc := 134) (i := 3) (j := 4) dX4_isLawfulAt_134 rfl rfl ?_
    refine z_iload_n (pc := 135) (i := 2) (j := 3) dX4_isLawfulAt_135 rfl rfl ?_
    refine z_iload (pc := 136) (i := 6) (j := 5) dX4_isLawfulAt_136 rfl ?_
    obtain ⟨q6, hq6, hf⟩ := Option.bind_eq_some_iff.mp hf
    refine z_oVi (pc := 138) (as := [.int q3.1, .int q4.1, .int q5.1, .int v3, .int v2, .int v6]) (rest := []) dX4_isLawfulAt_138 lm_RX4_86 mf_X2_value mi_X2_value mv_X2_value rc_1 rfl rfl (Nat.le_of_ble_eq_true rfl) (c_X2_value e (by omega) q3.1 q4.1 q5.1 v3 v2 v6 q5.2 hq6) ?_
    refine z_istore (pc := 141) (i := 11) (ls' := [(11, .int q6.1), (10, .int q2.1), (9, .int q1.1), (0, .ref 6), (2, .int v2), (3, .int v3), (6, .int v6), (7, .int v7), (8, .int v8)]) dX4_isLawfulAt_141 (Nat.le_of_ble_eq_true rfl) rfl ?_
    refine z_aload_n (pc := 143) (i := 0) (j := 3) dX4_isLawfulAt_143 rfl rfl ?_
    refine z_ogetI (pc := 144) dX4_isLawfulAt_144 lf_RX4_24 sh_6 rfl rfl ?_
    refine z_iconst (pc := 147) dX4_isLawfulAt_147 ki_2 ?_
    refine z_imul (pc := 148) dX4_isLawfulAt_148 ?_
    refine z_iload (pc := 149) (i := 11) (j := 0) dX4_isLawfulAt_149 rfl ?_
    refine z_if_eq (pc := 151) (tgt := 158) dX4_isLawfulAt_151 (by decide) (fun hc => ?_) (fun hc => ?_)
    · rw [if_pos hc] at hf
      refine z_iconst (pc := 158) dX4_isLawfulAt_158 ki_0 ?_
      exact z_pick [3, 2] rfl (b_X4_isLawfulAt_B159 e hd q1.1 0 ((q6.2.1 6 14) * 2) q6.2 (K := K) hf hK  h0)
    · rw [if_neg hc] at hf
      refine z_iconst (pc := 154) dX4_isLawfulAt_154 ki_1 ?_
      refine z_goto (pc := 155) (tgt := 159) dX4_isLawfulAt_155 (by decide) ?_
      exact z_pick [3, 2] rfl (b_X4_isLawfulAt_B159 e hd q1.1 1 ((q6.2.1 6 14) * 2) q6.2 (K := K) hf hK  h0)
def f_X4_isLawfulAt_B59 (v2 : Int32) (v3 : Int32) (v6 : Int32) (v7 : Int32) (s0 : Int32) (m : ej_M) : Option (Int32 × ej_M) :=
  if v2 = (m.1 6 15) then
    f_X4_isLawfulAt_B78 v2 v3 v6 v7 s0 m
  else
    (oj_pf m 6 15 v2).bind fun m1 =>
    (f_X4_judgeAnew m1).bind fun q2 =>
    f_X4_isLawfulAt_B78 v2 v3 v6 v7 s0 q2.2
set_option maxHeartbeats 4000000 in
set_option maxRecDepth 100000 in
theorem b_X4_isLawfulAt_B59 (e : Nat) (hd : 2 ≤ e) (v2 : Int32) (v3 : Int32) (v6 : Int32) (v7 : Int32) (s0 : Int32) (m : ej_M) {x : (Int32 × ej_M)} {res : Option Value × ej_H} {K : (Int32 × ej_M) → Prop} (hf : f_X4_isLawfulAt_B59 v2 v3 v6 v7 s0 m = some x) (hK : K x) (h0 : ∀ q : (Int32 × ej_M), K q → res = (some (Value.int q.1), (ej_sh, q.2))) : ej_Z cX4_isLawfulAt 12 (some .boolean) RX4 "isLawfulAt" (e + 1) 59 [(0, .ref 6), (2, .int v2), (3, .int v3), (6, .int v6), (7, .int v7)] [.int s0] (ej_sh, m) res := by
  unfold f_X4_isLawfulAt_B59 at hf
  refine z_istore (pc := 59) (i := 8) (ls' := [(8, .int s0), (0, .ref 6), (2, .int v2), (3, .int v3), (6, .int v6), (7, .int v7)]) dX4_isLawfulAt_59 (Nat.le_of_ble_eq_true rfl) rfl ?_
  refine z_iload_n (pc := 61) (i := 2) (j := 2) dX4_isLawfulAt_61 rfl rfl ?_
  refine z_aload_n (pc := 62) (i := 0) (j := 1) dX4_isLawfulAt_62 rfl rfl ?_
  refine z_ogetI (pc := 63) dX4_isLawfulAt_63 lf_RX4_76 sh_6 rfl rfl ?_
  refine z_icmp_eq (pc := 66) (tgt := 78) dX4_isLawfulAt_66 (by decide) (fun hc => ?_) (fun hc => ?_)
  · rw [if_pos hc] at hf
    exact z_pick [1, 2, 3, 4, 5, 0] rfl (b_X4_isLawfulAt_B78 e hd v2 v3 v6 v7 s0 m (K := K) hf hK  h0)
  · rw [if_neg hc] at hf
    refine z_aload_n (pc := 69) (i := 0) (j := 1) dX4_isLawfulAt_69 rfl rfl ?_
    refine z_iload_n (pc := 70) (i := 2) (j := 2) dX4_isLawfulAt_70 rfl rfl ?_
    obtain ⟨m1, hm1, hf⟩ := Option.bind_eq_some_iff.mp hf
    refine z_oputI (pc := 71) dX4_isLawfulAt_71 lf_RX4_76 sh_6 rfl hm1 ?_
    refine z_aload_n (pc := 74) (i := 0) (j := 1) dX4_isLawfulAt_74 rfl rfl ?_
    obtain ⟨q2, hq2, hf⟩ := Option.bind_eq_some_iff.mp hf
    refine z_oVv (pc := 75) (as := []) (rest := []) dX4_isLawfulAt_75 lm_RX4_54 mf_X4_judgeAnew mi_X4_judgeAnew mv_X4_judgeAnew rc_6 rfl rfl (Nat.le_of_ble_eq_true rfl) (c_X4_judgeAnew e (by omega) m1 hq2) ?_
    exact z_pick [1, 2, 3, 4, 5, 0] rfl (b_X4_isLawfulAt_B78 e hd v2 v3 v6 v7 s0 q2.2 (K := K) hf hK  h0)
def f_X4_isLawfulAt_B41 (v1 : Nat) (v2 : Int32) (v3 : Int32) (v5 : Int32) (v6 : Int32) (s0 : Int32) (m : ej_M) : Option (Int32 × ej_M) :=
  if v5 = (-1) then
    f_X4_isLawfulAt_B59 v2 v3 v6 s0 (-1) m
  else
    (f_X10_at v1 v5 m).bind fun q1 =>
    f_X4_isLawfulAt_B59 v2 v3 v6 s0 q1.1 q1.2
set_option maxHeartbeats 4000000 in
set_option maxRecDepth 100000 in
theorem b_X4_isLawfulAt_B41 (e : Nat) (hd : 2 ≤ e) (v1 : Nat) (v2 : Int32) (v3 : Int32) (v5 : Int32) (v6 : Int32) (s0 : Int32) (m : ej_M) {x : (Int32 × ej_M)} {res : Option Value × ej_H} {K : (Int32 × ej_M) → Prop} (hf : f_X4_isLawfulAt_B41 v1 v2 v3 v5 v6 s0 m = some x) (hK : K x) (h0 : ∀ q : (Int32 × ej_M), K q → res = (some (Value.int q.1), (ej_sh, q.2))) : ej_Z cX4_isLawfulAt 12 (some .boolean) RX4 "isLawfulAt" (e + 1) 41 [(0, .ref 6), (1, .ref v1), (2, .int v2), (3, .int v3), (5, .int v5), (6, .int v6)] [.int s0] (ej_sh, m) res := by
  unfold f_X4_isLawfulAt_B41 at hf
  refine z_istore (pc := 41) (i := 7) (ls' := [(7, .int s0), (0, .ref 6), (1, .ref v1), (2, .int v2), (3, .int v3), (5, .int v5), (6, .int v6)]) dX4_isLawfulAt_41 (Nat.le_of_ble_eq_true rfl) rfl ?_
  refine z_iload (pc := 43) (i := 5) (j := 5) dX4_isLawfulAt_43 rfl ?_
  refine z_iconst (pc := 45) dX4_isLawfulAt_45 ki_n1 ?_
  refine z_icmp_ne (pc := 46) (tgt := 53) dX4_isLawfulAt_46 (by decide) (fun hc => ?_) (fun hc => ?_)
  · rw [if_neg hc] at hf
    refine z_aload_n (pc := 53) (i := 1) (j := 2) dX4_isLawfulAt_53 rfl rfl ?_
    refine z_iload (pc := 54) (i := 5) (j := 5) dX4_isLawfulAt_54 rfl ?_
    obtain ⟨q1, hq1, hf⟩ := Option.bind_eq_some_iff.mp hf
    refine z_oSi (pc := 56) (as := [.ref v1, .int v5]) (rest := []) dX4_isLawfulAt_56 lm_RX4_46 mf_X10_at ms_X10_at rfl rfl (Nat.le_of_ble_eq_true rfl) (c_X10_at e (by omega) v1 v5 m hq1) ?_
    exact z_pick [1, 3, 4, 6, 0] rfl (b_X4_isLawfulAt_B59 e hd v2 v3 v6 s0 q1.1 q1.2 (K := K) hf hK  h0)
  · rw [if_pos hc] at hf
    refine z_iconst (pc := 49) dX4_isLawfulAt_49 ki_n1 ?_
    refine z_goto (pc := 50) (tgt := 59) dX4_isLawfulAt_50 (by decide) ?_
    exact z_pick [1, 3, 4, 6, 0] rfl (b_X4_isLawfulAt_B59 e hd v2 v3 v6 s0 (-1) m (K := K) hf hK  h0)
def f_X4_isLawfulAt (v1 : Nat) (v2 : Int32) (v3 : Int32) (m : ej_M) : Option (Int32 × ej_M) :=
  (f_X4_placeBeside v3 v2 (-1) m).bind fun q1 =>
  (f_X4_placeBeside v3 v2 1 q1.2).bind fun q2 =>
  (f_X10_at v1 v3 q2.2).bind fun q3 =>
  if q1.1 = (-1) then
    f_X4_isLawfulAt_B41 v1 v2 v3 q2.1 q3.1 (-1) q3.2
  else
    (f_X10_at v1 q1.1 q3.2).bind fun q4 =>
    f_X4_isLawfulAt_B41 v1 v2 v3 q2.1 q3.1 q4.1 q4.2
set_option maxHeartbeats 4000000 in
set_option maxRecDepth 100000 in
theorem b_X4_isLawfulAt (e : Nat) (hd : 2 ≤ e) (v1 : Nat) (v2 : Int32) (v3 : Int32) (m : ej_M) {x : (Int32 × ej_M)} {res : Option Value × ej_H} {K : (Int32 × ej_M) → Prop} (hf : f_X4_isLawfulAt v1 v2 v3 m = some x) (hK : K x) (h0 : ∀ q : (Int32 × ej_M), K q → res = (some (Value.int q.1), (ej_sh, q.2))) : ej_Z cX4_isLawfulAt 12 (some .boolean) RX4 "isLawfulAt" (e + 1) 0 [(0, .ref 6), (1, .ref v1), (2, .int v2), (3, .int v3)] [] (ej_sh, m) res := by
  unfold f_X4_isLawfulAt at hf
  refine z_aload_n (pc := 0) (i := 0) (j := 0) dX4_isLawfulAt_0 rfl rfl ?_
  refine z_iload_n (pc := 1) (i := 3) (j := 3) dX4_isLawfulAt_1 rfl rfl ?_
  refine z_iload_n (pc := 2) (i := 2) (j := 2) dX4_isLawfulAt_2 rfl rfl ?_
  refine z_iconst (pc := 3) dX4_isLawfulAt_3 ki_n1 ?_
  obtain ⟨q1, hq1, hf⟩ := Option.bind_eq_some_iff.mp hf
  refine z_oVi (pc := 4) (as := [.int v3, .int v2, .int (-1)]) (rest := []) dX4_isLawfulAt_4 lm_RX4_72 mf_X4_placeBeside mi_X4_placeBeside mv_X4_placeBeside rc_6 rfl rfl (Nat.le_of_ble_eq_true rfl) (c_X4_placeBeside e (by omega) v3 v2 (-1) m hq1) ?_
  refine z_istore (pc := 7) (i := 4) (ls' := [(4, .int q1.1), (0, .ref 6), (1, .ref v1), (2, .int v2), (3, .int v3)]) dX4_isLawfulAt_7 (Nat.le_of_ble_eq_true rfl) rfl ?_
  refine z_aload_n (pc := 9) (i := 0) (j := 1) dX4_isLawfulAt_9 rfl rfl ?_
  refine z_iload_n (pc := 10) (i := 3) (j := 4) dX4_isLawfulAt_10 rfl rfl ?_
  refine z_iload_n (pc := 11) (i := 2) (j := 3) dX4_isLawfulAt_11 rfl rfl ?_
  refine z_iconst (pc := 12) dX4_isLawfulAt_12 ki_1 ?_
  obtain ⟨q2, hq2, hf⟩ := Option.bind_eq_some_iff.mp hf
  refine z_oVi (pc := 13) (as := [.int v3, .int v2, .int 1]) (rest := []) dX4_isLawfulAt_13 lm_RX4_72 mf_X4_placeBeside mi_X4_placeBeside mv_X4_placeBeside rc_6 rfl rfl (Nat.le_of_ble_eq_true rfl) (c_X4_placeBeside e (by omega) v3 v2 1 q1.2 hq2) ?_
  refine z_istore (pc := 16) (i := 5) (ls' := [(5, .int q2.1), (4, .int q1.1), (0, .ref 6), (1, .ref v1), (2, .int v2), (3, .int v3)]) dX4_isLawfulAt_16 (Nat.le_of_ble_eq_true rfl) rfl ?_
  refine z_aload_n (pc := 18) (i := 1) (j := 3) dX4_isLawfulAt_18 rfl rfl ?_
  refine z_iload_n (pc := 19) (i := 3) (j := 5) dX4_isLawfulAt_19 rfl rfl ?_
  obtain ⟨q3, hq3, hf⟩ := Option.bind_eq_some_iff.mp hf
  refine z_oSi (pc := 20) (as := [.ref v1, .int v3]) (rest := []) dX4_isLawfulAt_20 lm_RX4_46 mf_X10_at ms_X10_at rfl rfl (Nat.le_of_ble_eq_true rfl) (c_X10_at e (by omega) v1 v3 q2.2 hq3) ?_
  refine z_istore (pc := 23) (i := 6) (ls' := [(6, .int q3.1), (5, .int q2.1), (4, .int q1.1), (0, .ref 6), (1, .ref v1), (2, .int v2), (3, .int v3)]) dX4_isLawfulAt_23 (Nat.le_of_ble_eq_true rfl) rfl ?_
  refine z_iload (pc := 25) (i := 4) (j := 2) dX4_isLawfulAt_25 rfl ?_
  refine z_iconst (pc := 27) dX4_isLawfulAt_27 ki_n1 ?_
  refine z_icmp_ne (pc := 28) (tgt := 35) dX4_isLawfulAt_28 (by decide) (fun hc => ?_) (fun hc => ?_)
  · rw [if_neg hc] at hf
    refine z_aload_n (pc := 35) (i := 1) (j := 4) dX4_isLawfulAt_35 rfl rfl ?_
    refine z_iload (pc := 36) (i := 4) (j := 2) dX4_isLawfulAt_36 rfl ?_
    obtain ⟨q4, hq4, hf⟩ := Option.bind_eq_some_iff.mp hf
    refine z_oSi (pc := 38) (as := [.ref v1, .int q1.1]) (rest := []) dX4_isLawfulAt_38 lm_RX4_46 mf_X10_at ms_X10_at rfl rfl (Nat.le_of_ble_eq_true rfl) (c_X10_at e (by omega) v1 q1.1 q3.2 hq4) ?_
    exact z_pick [3, 4, 5, 6, 1, 0] rfl (b_X4_isLawfulAt_B41 e hd v1 v2 v3 q2.1 q3.1 q4.1 q4.2 (K := K) hf hK  h0)
  · rw [if_pos hc] at hf
    refine z_iconst (pc := 31) dX4_isLawfulAt_31 ki_n1 ?_
    refine z_goto (pc := 32) (tgt := 41) dX4_isLawfulAt_32 (by decide) ?_
    exact z_pick [3, 4, 5, 6, 1, 0] rfl (b_X4_isLawfulAt_B41 e hd v1 v2 v3 q2.1 q3.1 (-1) q3.2 (K := K) hf hK  h0)
set_option maxHeartbeats 4000000 in
set_option maxRecDepth 100000 in
theorem c_X4_isLawfulAt (d : Nat) (hd : 3 ≤ d) (v1 : Nat) (v2 : Int32) (v3 : Int32) (m : ej_M) {q : (Int32 × ej_M)} (hf : f_X4_isLawfulAt v1 v2 v3 m = some q) : ej_Ct yX4_isLawfulAt cX4_isLawfulAt 12 (some .boolean) d [.ref 6, .ref v1, .int v2, .int v3] (ej_sh, m) ((some (Value.int q.1), (ej_sh, q.2)) : Option Value × ej_H) := by
  obtain ⟨e, rfl⟩ : ∃ e, d = e + 1 := ⟨d - 1, by omega⟩
  exact z_met (by decide +kernel) (Nat.le_of_ble_eq_true rfl) (b_X4_isLawfulAt e (by omega) v1 v2 v3 m (K := fun z => ((some (Value.int q.1), (ej_sh, q.2)) : Option Value × ej_H) = (some (Value.int z.1), (ej_sh, z.2))) hf rfl (fun _ h => h))
def f_X4_isLawful_L2b (v1 : Nat) (v2 : Int32) (v3 : Int32) (m : ej_M) : Option ((Int32 × ej_M) ⊕ (Int32 × ej_M)) :=
  if v2 ≤ v3 then
    some (Sum.inr (1, m))
  else
    (f_X4_isLawfulAt v1 v2 v3 m).bind fun q1 =>
    if q1.1 = 0 then
      some (Sum.inr (0, q1.2))
    else
      some (Sum.inl ((v3 + 1), q1.2))
set_option maxHeartbeats 4000000 in
set_option maxRecDepth 100000 in
theorem b_X4_isLawful_L2b (e : Nat) (hd : 3 ≤ e) (v1 : Nat) (v2 : Int32) (v3 : Int32) (m : ej_M) {x : ((Int32 × ej_M) ⊕ (Int32 × ej_M))} {res : Option Value × ej_H} {K : ((Int32 × ej_M) ⊕ (Int32 × ej_M)) → Prop} (hf : f_X4_isLawful_L2b v1 v2 v3 m = some x) (hK : K x) (h1 : ∀ q : (Int32 × ej_M), K (Sum.inl q) → ej_Z cX4_isLawful 4 (some .boolean) RX4 "isLawful" (e + 1) 2 [(0, .ref 6), (1, .ref v1), (2, .int v2), (3, .int q.1)] [] (ej_sh, q.2) res) (h0 : ∀ q : (Int32 × ej_M), K (Sum.inr q) → res = (some (Value.int q.1), (ej_sh, q.2))) : ej_Z cX4_isLawful 4 (some .boolean) RX4 "isLawful" (e + 1) 2 [(0, .ref 6), (1, .ref v1), (2, .int v2), (3, .int v3)] [] (ej_sh, m) res := by
  unfold f_X4_isLawful_L2b at hf
  refine z_iload_n (pc := 2) (i := 3) (j := 3) dX4_isLawful_2 rfl rfl ?_
  refine z_iload_n (pc := 3) (i := 2) (j := 2) dX4_isLawful_3 rfl rfl ?_
  refine z_icmp_ge (pc := 4) (tgt := 25) dX4_isLawful_4 (by decide) (fun hc => ?_) (fun hc => ?_)
  · rw [if_pos hc] at hf
    refine z_iconst (pc := 25) dX4_isLawful_25 ki_1 ?_
    obtain rfl := Option.some.inj hf
    rw [h0 _ hK]
    exact z_iret dX4_isLawful_26 rfl rfl
  · rw [if_neg hc] at hf
    refine z_aload_n (pc := 7) (i := 0) (j := 0) dX4_isLawful_7 rfl rfl ?_
    refine z_aload_n (pc := 8) (i := 1) (j := 1) dX4_isLawful_8 rfl rfl ?_
    refine z_iload_n (pc := 9) (i := 2) (j := 2) dX4_isLawful_9 rfl rfl ?_
    refine z_iload_n (pc := 10) (i := 3) (j := 3) dX4_isLawful_10 rfl rfl ?_
    obtain ⟨q1, hq1, hf⟩ := Option.bind_eq_some_iff.mp hf
    refine z_oVi (pc := 11) (as := [.ref v1, .int v2, .int v3]) (rest := []) dX4_isLawful_11 lm_RX4_65 mf_X4_isLawfulAt mi_X4_isLawfulAt mv_X4_isLawfulAt rc_6 rfl rfl (Nat.le_of_ble_eq_true rfl) (c_X4_isLawfulAt e (by omega) v1 v2 v3 m hq1) ?_
    refine z_if_ne (pc := 14) (tgt := 19) dX4_isLawful_14 (by decide) (fun hc => ?_) (fun hc => ?_)
    · rw [if_neg hc] at hf
      refine z_iinc (pc := 19) (j := 3) (ls' := [(3, .int (v3 + 1)), (0, .ref 6), (1, .ref v1), (2, .int v2)]) dX4_isLawful_19 rfl ki_1 (Nat.le_of_ble_eq_true rfl) rfl ?_
      refine z_goto (pc := 22) (tgt := 2) dX4_isLawful_22 (by decide) ?_
      obtain rfl := Option.some.inj hf
      exact z_pick (ls' := [(0, .ref 6), (1, .ref v1), (2, .int v2), (3, .int (v3 + 1))]) [1, 2, 3, 0] rfl (h1 ((v3 + 1), q1.2) hK)
    · rw [if_pos hc] at hf
      refine z_iconst (pc := 17) dX4_isLawful_17 ki_0 ?_
      obtain rfl := Option.some.inj hf
      rw [h0 _ hK]
      exact z_iret dX4_isLawful_18 rfl rfl
def f_X4_isLawful_L2 (v1 : Nat) (v2 : Int32) (v3 : Int32) (m : ej_M) : Option (Int32 × ej_M) := oj_loop (fun q : (Int32 × ej_M) => f_X4_isLawful_L2b v1 v2 q.1 q.2) oj_FU (v3, m)
set_option maxHeartbeats 4000000 in
set_option maxRecDepth 100000 in
theorem b_X4_isLawful_L2 (e : Nat) (hd : 3 ≤ e) (v1 : Nat) (v2 : Int32) (v3 : Int32) (m : ej_M) {x : (Int32 × ej_M)} {res : Option Value × ej_H} {K : (Int32 × ej_M) → Prop} (hf : f_X4_isLawful_L2 v1 v2 v3 m = some x) (hK : K x) (h0 : ∀ q : (Int32 × ej_M), K q → res = (some (Value.int q.1), (ej_sh, q.2))) : ej_Z cX4_isLawful 4 (some .boolean) RX4 "isLawful" (e + 1) 2 [(0, .ref 6), (1, .ref v1), (2, .int v2), (3, .int v3)] [] (ej_sh, m) res :=
  oj_loop_Z (body := fun q : (Int32 × ej_M) => f_X4_isLawful_L2b v1 v2 q.1 q.2) (P := fun q : (Int32 × ej_M) => ej_Z cX4_isLawful 4 (some .boolean) RX4 "isLawful" (e + 1) 2 [(0, .ref 6), (1, .ref v1), (2, .int v2), (3, .int q.1)] [] (ej_sh, q.2) res) (K := K) (fun s x hb hl hr => b_X4_isLawful_L2b e hd v1 v2  s.1 s.2 (K := fun x => (∀ s' : (Int32 × ej_M), x = Sum.inl s' → ej_Z cX4_isLawful 4 (some .boolean) RX4 "isLawful" (e + 1) 2 [(0, .ref 6), (1, .ref v1), (2, .int v2), (3, .int s'.1)] [] (ej_sh, s'.2) res) ∧ ∀ e, x = Sum.inr e → K e) hb ⟨hl, hr⟩ (fun q hq => hq.1 q rfl) (fun q hq => h0 q (hq.2 _ rfl))) oj_FU (v3, m) x hf hK
def f_X4_isLawful (v1 : Nat) (v2 : Int32) (m : ej_M) : Option (Int32 × ej_M) :=
  f_X4_isLawful_L2 v1 v2 0 m
set_option maxHeartbeats 4000000 in
set_option maxRecDepth 100000 in
theorem b_X4_isLawful (e : Nat) (hd : 3 ≤ e) (v1 : Nat) (v2 : Int32) (m : ej_M) {x : (Int32 × ej_M)} {res : Option Value × ej_H} {K : (Int32 × ej_M) → Prop} (hf : f_X4_isLawful v1 v2 m = some x) (hK : K x) (h0 : ∀ q : (Int32 × ej_M), K q → res = (some (Value.int q.1), (ej_sh, q.2))) : ej_Z cX4_isLawful 4 (some .boolean) RX4 "isLawful" (e + 1) 0 [(0, .ref 6), (1, .ref v1), (2, .int v2)] [] (ej_sh, m) res := by
  unfold f_X4_isLawful at hf
  refine z_iconst (pc := 0) dX4_isLawful_0 ki_0 ?_
  refine z_istore_n (pc := 1) (i := 3) (ls' := [(3, .int 0), (0, .ref 6), (1, .ref v1), (2, .int v2)]) dX4_isLawful_1 rfl (Nat.le_of_ble_eq_true rfl) rfl ?_
  exact z_pick [1, 2, 3, 0] rfl (b_X4_isLawful_L2 e hd v1 v2 0 m (K := K) hf hK  h0)
set_option maxHeartbeats 4000000 in
set_option maxRecDepth 100000 in
theorem c_X4_isLawful (d : Nat) (hd : 4 ≤ d) (v1 : Nat) (v2 : Int32) (m : ej_M) {q : (Int32 × ej_M)} (hf : f_X4_isLawful v1 v2 m = some q) : ej_Ct yX4_isLawful cX4_isLawful 4 (some .boolean) d [.ref 6, .ref v1, .int v2] (ej_sh, m) ((some (Value.int q.1), (ej_sh, q.2)) : Option Value × ej_H) := by
  obtain ⟨e, rfl⟩ : ∃ e, d = e + 1 := ⟨d - 1, by omega⟩
  exact z_met (by decide +kernel) (Nat.le_of_ble_eq_true rfl) (b_X4_isLawful e (by omega) v1 v2 m (K := fun z => ((some (Value.int q.1), (ej_sh, q.2)) : Option Value × ej_H) = (some (Value.int z.1), (ej_sh, z.2))) hf rfl (fun _ h => h))
def f_X10_ofAll (v1 : Int32) (m : ej_M) : Option (Int32 × ej_M) :=
  if v1 = 20 then
    some ((m.1 6 5), m)
  else
    if v1 = 21 then
      (f_X4_isLawful 8 (m.1 6 4) m).bind fun q1 =>
      if q1.1 = 0 then
        some (0, q1.2)
      else
        some (1, q1.2)
    else
      if v1 = 22 then
        some ((m.1 6 6), m)
      else
        if v1 = 23 then
          some ((m.1 6 7), m)
        else
          some ((-1), m)
set_option maxHeartbeats 4000000 in
set_option maxRecDepth 100000 in
theorem b_X10_ofAll (e : Nat) (hd : 4 ≤ e) (v1 : Int32) (m : ej_M) {x : (Int32 × ej_M)} {res : Option Value × ej_H} {K : (Int32 × ej_M) → Prop} (hf : f_X10_ofAll v1 m = some x) (hK : K x) (h0 : ∀ q : (Int32 × ej_M), K q → res = (some (Value.int q.1), (ej_sh, q.2))) : ej_Z cX10_ofAll 2 (some .int) RX10 "ofAll" (e + 1) 0 [(0, .ref 0), (1, .int v1)] [] (ej_sh, m) res := by
  unfold f_X10_ofAll at hf
  refine z_iload_n (pc := 0) (i := 1) (j := 1) dX10_ofAll_0 rfl rfl ?_
  by_cases hs20 : v1 = 20
  · rw [if_pos hs20] at hf
    refine z_tabIn (pc := 1) (off := 31) (tgt := 32) dX10_ofAll_1 (by rw [hs20]; decide) (by rw [hs20]; decide) (by rw [hs20]; rfl) (by decide) ?_
    refine z_aload_n (pc := 32) (i := 0) (j := 0) dX10_ofAll_32 rfl rfl ?_
    refine z_ogetR (pc := 33) dX10_ofAll_33 lf_RX10_21 sh_0 rfl rfl rfl ?_
    refine z_ogetI (pc := 36) dX10_ofAll_36 lf_RX10_132 sh_6 rfl rfl ?_
    obtain rfl := Option.some.inj hf
    rw [h0 _ hK]
    exact z_iret dX10_ofAll_39 rfl rfl
  · rw [if_neg hs20] at hf
    by_cases hs21 : v1 = 21
    · rw [if_pos hs21] at hf
      refine z_tabIn (pc := 1) (off := 39) (tgt := 40) dX10_ofAll_1 (by rw [hs21]; decide) (by rw [hs21]; decide) (by rw [hs21]; rfl) (by decide) ?_
      refine z_aload_n (pc := 40) (i := 0) (j := 0) dX10_ofAll_40 rfl rfl ?_
      refine z_ogetR (pc := 41) dX10_ofAll_41 lf_RX10_21 sh_0 rfl rfl rfl ?_
      refine z_aload_n (pc := 44) (i := 0) (j := 0) dX10_ofAll_44 rfl rfl ?_
      refine z_ogetR (pc := 45) dX10_ofAll_45 lf_RX10_21 sh_0 rfl rfl rfl ?_
      refine z_ogetR (pc := 48) dX10_ofAll_48 lf_RX10_121 sh_6 rfl rfl rfl ?_
      refine z_aload_n (pc := 51) (i := 0) (j := 0) dX10_ofAll_51 rfl rfl ?_
      refine z_ogetR (pc := 52) dX10_ofAll_52 lf_RX10_21 sh_0 rfl rfl rfl ?_
      refine z_ogetI (pc := 55) dX10_ofAll_55 lf_RX10_136 sh_6 rfl rfl ?_
      obtain ⟨q1, hq1, hf⟩ := Option.bind_eq_some_iff.mp hf
      refine z_oVi (pc := 58) (as := [.ref 8, .int (m.1 6 4)]) (rest := []) dX10_ofAll_58 lm_RX10_139 mf_X4_isLawful mi_X4_isLawful mv_X4_isLawful rc_6 rfl rfl (Nat.le_of_ble_eq_true rfl) (c_X4_isLawful e (by omega) 8 (m.1 6 4) m hq1) ?_
      refine z_if_eq (pc := 61) (tgt := 68) dX10_ofAll_61 (by decide) (fun hc => ?_) (fun hc => ?_)
      · rw [if_pos hc] at hf
        refine z_iconst (pc := 68) dX10_ofAll_68 ki_0 ?_
        obtain rfl := Option.some.inj hf
        rw [h0 _ hK]
        exact z_iret dX10_ofAll_69 rfl rfl
      · rw [if_neg hc] at hf
        refine z_iconst (pc := 64) dX10_ofAll_64 ki_1 ?_
        refine z_goto (pc := 65) (tgt := 69) dX10_ofAll_65 (by decide) ?_
        obtain rfl := Option.some.inj hf
        rw [h0 _ hK]
        exact z_iret dX10_ofAll_69 rfl rfl
    · rw [if_neg hs21] at hf
      by_cases hs22 : v1 = 22
      · rw [if_pos hs22] at hf
        refine z_tabIn (pc := 1) (off := 69) (tgt := 70) dX10_ofAll_1 (by rw [hs22]; decide) (by rw [hs22]; decide) (by rw [hs22]; rfl) (by decide) ?_
        refine z_aload_n (pc := 70) (i := 0) (j := 0) dX10_ofAll_70 rfl rfl ?_
        refine z_ogetR (pc := 71) dX10_ofAll_71 lf_RX10_21 sh_0 rfl rfl rfl ?_
        refine z_ogetI (pc := 74) dX10_ofAll_74 lf_RX10_143 sh_6 rfl rfl ?_
        obtain rfl := Option.some.inj hf
        rw [h0 _ hK]
        exact z_iret dX10_ofAll_77 rfl rfl
      · rw [if_neg hs22] at hf
        by_cases hs23 : v1 = 23
        · rw [if_pos hs23] at hf
          refine z_tabIn (pc := 1) (off := 77) (tgt := 78) dX10_ofAll_1 (by rw [hs23]; decide) (by rw [hs23]; decide) (by rw [hs23]; rfl) (by decide) ?_
          refine z_aload_n (pc := 78) (i := 0) (j := 0) dX10_ofAll_78 rfl rfl ?_
          refine z_ogetR (pc := 79) dX10_ofAll_79 lf_RX10_21 sh_0 rfl rfl rfl ?_
          refine z_ogetI (pc := 82) dX10_ofAll_82 lf_RX10_146 sh_6 rfl rfl ?_
          obtain rfl := Option.some.inj hf
          rw [h0 _ hK]
          exact z_iret dX10_ofAll_85 rfl rfl
        · rw [if_neg hs23] at hf
          refine z_tabD (pc := 1) (tgt := 86) dX10_ofAll_1 (by decide) (fun k hk => ?_) (by decide) ?_
          · have hk9 : k = 0 ∨ k = 1 ∨ k = 2 ∨ k = 3 := by have hk8 : k < 4 := hk; omega
            rcases hk9 with rfl | rfl | rfl | rfl
            · exact Or.inr (by have := lv_neT hs20 (show (20 : Int32).toInt = 20 by decide); omega)
            · exact Or.inr (by have := lv_neT hs21 (show (21 : Int32).toInt = 21 by decide); omega)
            · exact Or.inr (by have := lv_neT hs22 (show (22 : Int32).toInt = 22 by decide); omega)
            · exact Or.inr (by have := lv_neT hs23 (show (23 : Int32).toInt = 23 by decide); omega)
          refine z_iconst (pc := 86) dX10_ofAll_86 ki_n1 ?_
          obtain rfl := Option.some.inj hf
          rw [h0 _ hK]
          exact z_iret dX10_ofAll_87 rfl rfl
set_option maxHeartbeats 4000000 in
set_option maxRecDepth 100000 in
theorem c_X10_ofAll (d : Nat) (hd : 5 ≤ d) (v1 : Int32) (m : ej_M) {q : (Int32 × ej_M)} (hf : f_X10_ofAll v1 m = some q) : ej_Ct yX10_ofAll cX10_ofAll 2 (some .int) d [.ref 0, .int v1] (ej_sh, m) ((some (Value.int q.1), (ej_sh, q.2)) : Option Value × ej_H) := by
  obtain ⟨e, rfl⟩ : ∃ e, d = e + 1 := ⟨d - 1, by omega⟩
  exact z_met (by decide +kernel) (Nat.le_of_ble_eq_true rfl) (b_X10_ofAll e (by omega) v1 m (K := fun z => ((some (Value.int q.1), (ej_sh, q.2)) : Option Value × ej_H) = (some (Value.int z.1), (ej_sh, z.2))) hf rfl (fun _ h => h))
