def f_X11_goTurns_L98b (v1 : Int32) (v4 : Int32) (v5 : Int32) (v6 : Int32) (v3 : Int32) (v7 : Int32) (m : ej_M) : Option ((Int32 × Int32 × ej_M) ⊕ ((Int32 × Int32 × ej_M) ⊕ ((Int32 × Int32 × ej_M) ⊕ (Int32 × ej_M)))) :=
  if (m.1 41 4) ≤ v7 then
    some (Sum.inr (Sum.inl (v3, (v6 + 1), m)))
  else
    (f_X11_layRank v5 m).bind fun q1 =>
    (f_X11_turnRow v6 v7 q1.2).bind fun q2 =>
    (f_X11_rankOf q2.2).bind fun q3 =>
    (oj_ld 2 q3.2 60 q3.1).bind fun w4 =>
    if 0 ≤ w4 then
      some (Sum.inl (v3, (v7 + 1), q3.2))
    else
      (f_X11_isLawful q3.2).bind fun q5 =>
      if q5.1 = 0 then
        some (Sum.inl (v3, (v7 + 1), q5.2))
      else
        (oj_ld 2 q5.2 60 v5).bind fun w6 =>
        (oj_st 2 q5.2 60 q3.1 (vp_nar .short ((Int32.toInt16 (w6 + 1)).toInt32))).bind fun m7 =>
        (oj_st 2 m7 61 v3 (vp_nar .short ((Int32.toInt16 q3.1).toInt32))).bind fun m8 =>
        some (Sum.inl ((v3 + 1), (v7 + 1), m8))
set_option maxHeartbeats 4000000 in
set_option maxRecDepth 100000 in
theorem b_X11_goTurns_L98b (e : Nat) (hd : 4 ≤ e) (v1 : Int32) (v4 : Int32) (v5 : Int32) (v6 : Int32) (v3 : Int32) (v7 : Int32) (m : ej_M) {x : ((Int32 × Int32 × ej_M) ⊕ ((Int32 × Int32 × ej_M) ⊕ ((Int32 × Int32 × ej_M) ⊕ (Int32 × ej_M))))} {res : Option Value × ej_H} {K : ((Int32 × Int32 × ej_M) ⊕ ((Int32 × Int32 × ej_M) ⊕ ((Int32 × Int32 × ej_M) ⊕ (Int32 × ej_M)))) → Prop} (hf : f_X11_goTurns_L98b v1 v4 v5 v6 v3 v7 m = some x) (hK : K x) (h1 : ∀ q : (Int32 × Int32 × ej_M), K (Sum.inl q) → ej_Z cX11_goTurns 9 (some .int) RX11 "goTurns" (e + 1) 98 [(0, .ref 41), (1, .int v1), (3, .int q.1), (4, .int v4), (5, .int v5), (6, .int v6), (7, .int q.2.1)] [] (ej_sh, q.2.2) res) (h2 : ∀ q : (Int32 × Int32 × ej_M), K (Sum.inr (Sum.inl q)) → ej_Z cX11_goTurns 9 (some .int) RX11 "goTurns" (e + 1) 83 [(0, .ref 41), (1, .int v1), (3, .int q.1), (4, .int v4), (5, .int v5), (6, .int q.2.1)] [] (ej_sh, q.2.2) res) (h3 : ∀ q : (Int32 × Int32 × ej_M), K (Sum.inr (Sum.inr (Sum.inl q))) → ej_Z cX11_goTurns 9 (some .int) RX11 "goTurns" (e + 1) 51 [(0, .ref 41), (1, .int v1), (3, .int q.1), (4, .int q.2.1)] [] (ej_sh, q.2.2) res) (h0 : ∀ q : (Int32 × ej_M), K (Sum.inr (Sum.inr (Sum.inr q))) → res = (some (Value.int q.1), (ej_sh, q.2))) : ej_Z cX11_goTurns 9 (some .int) RX11 "goTurns" (e + 1) 98 [(0, .ref 41), (1, .int v1), (3, .int v3), (4, .int v4), (5, .int v5), (6, .int v6), (7, .int v7)] [] (ej_sh, m) res := by
  unfold f_X11_goTurns_L98b at hf
  refine z_iload (pc := 98) (i := 7) (j := 6) dX11_goTurns_98 rfl ?_
  refine z_aload_n (pc := 100) (i := 0) (j := 0) dX11_goTurns_100 rfl rfl ?_
  refine z_ogetI (pc := 101) dX11_goTurns_101 lf_RX11_108 sh_41 rfl rfl ?_
  refine z_icmp_ge (pc := 104) (tgt := 182) dX11_goTurns_104 (by decide) (fun hc => ?_) (fun hc => ?_)
  · rw [if_pos hc] at hf
    refine z_iinc (pc := 182) (j := 5) (ls' := [(6, .int (v6 + 1)), (0, .ref 41), (1, .int v1), (3, .int v3), (4, .int v4), (5, .int v5), (7, .int v7)]) dX11_goTurns_182 rfl ki_1 (Nat.le_of_ble_eq_true rfl) rfl ?_
    refine z_goto (pc := 185) (tgt := 83) dX11_goTurns_185 (by decide) ?_
    obtain rfl := Option.some.inj hf
    exact z_pick (ls' := [(0, .ref 41), (1, .int v1), (3, .int v3), (4, .int v4), (5, .int v5), (6, .int (v6 + 1))]) [1, 2, 3, 4, 5, 0] rfl (h2 (v3, (v6 + 1), m) hK)
  · rw [if_neg hc] at hf
    refine z_aload_n (pc := 107) (i := 0) (j := 0) dX11_goTurns_107 rfl rfl ?_
    refine z_iload (pc := 108) (i := 5) (j := 4) dX11_goTurns_108 rfl ?_
    obtain ⟨q1, hq1, hf⟩ := Option.bind_eq_some_iff.mp hf
    refine z_oVv (pc := 110) (as := [.int v5]) (rest := []) dX11_goTurns_110 lm_RX11_316 mf_X11_layRank mi_X11_layRank mv_X11_layRank rc_41 rfl rfl (Nat.le_of_ble_eq_true rfl) (c_X11_layRank e (by omega) v5 m hq1) ?_
    refine z_aload_n (pc := 113) (i := 0) (j := 0) dX11_goTurns_113 rfl rfl ?_
    refine z_iload (pc := 114) (i := 6) (j := 5) dX11_goTurns_114 rfl ?_
    refine z_iload (pc := 116) (i := 7) (j := 6) dX11_goTurns_116 rfl ?_
    obtain ⟨q2, hq2, hf⟩ := Option.bind_eq_some_iff.mp hf
    refine z_oVv (pc := 118) (as := [.int v6, .int v7]) (rest := []) dX11_goTurns_118 lm_RX11_251 mf_X11_turnRow mi_X11_turnRow mv_X11_turnRow rc_41 rfl rfl (Nat.le_of_ble_eq_true rfl) (c_X11_turnRow e (by omega) v6 v7 q1.2 hq2) ?_
    refine z_aload_n (pc := 121) (i := 0) (j := 0) dX11_goTurns_121 rfl rfl ?_
    obtain ⟨q3, hq3, hf⟩ := Option.bind_eq_some_iff.mp hf
    refine z_oVi (pc := 122) (as := []) (rest := []) dX11_goTurns_122 lm_RX11_313 mf_X11_rankOf mi_X11_rankOf mv_X11_rankOf rc_41 rfl rfl (Nat.le_of_ble_eq_true rfl) (c_X11_rankOf e (by omega) q2.2 hq3) ?_
    refine z_istore (pc := 125) (i := 8) (ls' := [(8, .int q3.1), (0, .ref 41), (1, .int v1), (3, .int v3), (4, .int v4), (5, .int v5), (6, .int v6), (7, .int v7)]) dX11_goTurns_125 (Nat.le_of_ble_eq_true rfl) rfl ?_
    refine z_aload_n (pc := 127) (i := 0) (j := 1) dX11_goTurns_127 rfl rfl ?_
    refine z_ogetR (pc := 128) dX11_goTurns_128 lf_RX11_66 sh_41 rfl rfl rfl ?_
    refine z_iload (pc := 131) (i := 8) (j := 0) dX11_goTurns_131 rfl ?_
    obtain ⟨w4, hw4, hf⟩ := Option.bind_eq_some_iff.mp hf
    refine z_osald (pc := 133) dX11_goTurns_133 hw4 ?_
    refine z_if_ge (pc := 134) (tgt := 176) dX11_goTurns_134 (by decide) (fun hc => ?_) (fun hc => ?_)
    · rw [if_pos hc] at hf
      refine z_iinc (pc := 176) (j := 7) (ls' := [(7, .int (v7 + 1)), (8, .int q3.1), (0, .ref 41), (1, .int v1), (3, .int v3), (4, .int v4), (5, .int v5), (6, .int v6)]) dX11_goTurns_176 rfl ki_1 (Nat.le_of_ble_eq_true rfl) rfl ?_
      refine z_goto (pc := 179) (tgt := 98) dX11_goTurns_179 (by decide) ?_
      obtain rfl := Option.some.inj hf
      exact z_pick (ls' := [(0, .ref 41), (1, .int v1), (3, .int v3), (4, .int v4), (5, .int v5), (6, .int v6), (7, .int (v7 + 1))]) [2, 3, 4, 5, 6, 7, 0] rfl (h1 (v3, (v7 + 1), q3.2) hK)
    · rw [if_neg hc] at hf
      refine z_aload_n (pc := 137) (i := 0) (j := 1) dX11_goTurns_137 rfl rfl ?_
      obtain ⟨q5, hq5, hf⟩ := Option.bind_eq_some_iff.mp hf
      refine z_oVi (pc := 138) (as := []) (rest := []) dX11_goTurns_138 lm_RX11_230 mf_X11_isLawful mi_X11_isLawful mv_X11_isLawful rc_41 rfl rfl (Nat.le_of_ble_eq_true rfl) (c_X11_isLawful e (by omega) q3.2 hq5) ?_
      refine z_if_ne (pc := 141) (tgt := 147) dX11_goTurns_141 (by decide) (fun hc => ?_) (fun hc => ?_)
      · rw [if_neg hc] at hf
        refine z_aload_n (pc := 147) (i := 0) (j := 1) dX11_goTurns_147 rfl rfl ?_
        refine z_ogetR (pc := 148) dX11_goTurns_148 lf_RX11_66 sh_41 rfl rfl rfl ?_
        refine z_iload (pc := 151) (i := 8) (j := 0) dX11_goTurns_151 rfl ?_
        refine z_aload_n (pc := 153) (i := 0) (j := 1) dX11_goTurns_153 rfl rfl ?_
        refine z_ogetR (pc := 154) dX11_goTurns_154 lf_RX11_66 sh_41 rfl rfl rfl ?_
        refine z_iload (pc := 157) (i := 5) (j := 5) dX11_goTurns_157 rfl ?_
        obtain ⟨w6, hw6, hf⟩ := Option.bind_eq_some_iff.mp hf
        refine z_osald (pc := 159) dX11_goTurns_159 hw6 ?_
        refine z_iconst (pc := 160) dX11_goTurns_160 ki_1 ?_
        refine z_iadd (pc := 161) dX11_goTurns_161 ?_
        refine z_i2s (pc := 162) dX11_goTurns_162 ?_
        obtain ⟨m7, hm7, hf⟩ := Option.bind_eq_some_iff.mp hf
        refine z_osast (pc := 163) dX11_goTurns_163 hm7 ?_
        refine z_aload_n (pc := 164) (i := 0) (j := 1) dX11_goTurns_164 rfl rfl ?_
        refine z_ogetR (pc := 165) dX11_goTurns_165 lf_RX11_69 sh_41 rfl rfl rfl ?_
        refine z_iload_n (pc := 168) (i := 3) (j := 3) dX11_goTurns_168 rfl rfl ?_
        refine z_iload (pc := 169) (i := 8) (j := 0) dX11_goTurns_169 rfl ?_
        refine z_i2s (pc := 171) dX11_goTurns_171 ?_
        obtain ⟨m8, hm8, hf⟩ := Option.bind_eq_some_iff.mp hf
        refine z_osast (pc := 172) dX11_goTurns_172 hm8 ?_
        refine z_iinc (pc := 173) (j := 3) (ls' := [(3, .int (v3 + 1)), (8, .int q3.1), (0, .ref 41), (1, .int v1), (4, .int v4), (5, .int v5), (6, .int v6), (7, .int v7)]) dX11_goTurns_173 rfl ki_1 (Nat.le_of_ble_eq_true rfl) rfl ?_
        refine z_iinc (pc := 176) (j := 7) (ls' := [(7, .int (v7 + 1)), (3, .int (v3 + 1)), (8, .int q3.1), (0, .ref 41), (1, .int v1), (4, .int v4), (5, .int v5), (6, .int v6)]) dX11_goTurns_176 rfl ki_1 (Nat.le_of_ble_eq_true rfl) rfl ?_
        refine z_goto (pc := 179) (tgt := 98) dX11_goTurns_179 (by decide) ?_
        obtain rfl := Option.some.inj hf
        exact z_pick (ls' := [(0, .ref 41), (1, .int v1), (3, .int (v3 + 1)), (4, .int v4), (5, .int v5), (6, .int v6), (7, .int (v7 + 1))]) [3, 4, 1, 5, 6, 7, 0] rfl (h1 ((v3 + 1), (v7 + 1), m8) hK)
      · rw [if_pos hc] at hf
        refine z_goto (pc := 144) (tgt := 176) dX11_goTurns_144 (by decide) ?_
        refine z_iinc (pc := 176) (j := 7) (ls' := [(7, .int (v7 + 1)), (8, .int q3.1), (0, .ref 41), (1, .int v1), (3, .int v3), (4, .int v4), (5, .int v5), (6, .int v6)]) dX11_goTurns_176 rfl ki_1 (Nat.le_of_ble_eq_true rfl) rfl ?_
        refine z_goto (pc := 179) (tgt := 98) dX11_goTurns_179 (by decide) ?_
        obtain rfl := Option.some.inj hf
        exact z_pick (ls' := [(0, .ref 41), (1, .int v1), (3, .int v3), (4, .int v4), (5, .int v5), (6, .int v6), (7, .int (v7 + 1))]) [2, 3, 4, 5, 6, 7, 0] rfl (h1 (v3, (v7 + 1), q5.2) hK)
def f_X11_goTurns_L98 (v1 : Int32) (v4 : Int32) (v5 : Int32) (v6 : Int32) (v3 : Int32) (v7 : Int32) (m : ej_M) : Option ((Int32 × Int32 × ej_M) ⊕ ((Int32 × Int32 × ej_M) ⊕ (Int32 × ej_M))) := oj_loop (fun q : (Int32 × Int32 × ej_M) => f_X11_goTurns_L98b v1 v4 v5 v6 q.1 q.2.1 q.2.2) oj_FU (v3, v7, m)
set_option maxHeartbeats 4000000 in
set_option maxRecDepth 100000 in
theorem b_X11_goTurns_L98 (e : Nat) (hd : 4 ≤ e) (v1 : Int32) (v4 : Int32) (v5 : Int32) (v6 : Int32) (v3 : Int32) (v7 : Int32) (m : ej_M) {x : ((Int32 × Int32 × ej_M) ⊕ ((Int32 × Int32 × ej_M) ⊕ (Int32 × ej_M)))} {res : Option Value × ej_H} {K : ((Int32 × Int32 × ej_M) ⊕ ((Int32 × Int32 × ej_M) ⊕ (Int32 × ej_M))) → Prop} (hf : f_X11_goTurns_L98 v1 v4 v5 v6 v3 v7 m = some x) (hK : K x) (h1 : ∀ q : (Int32 × Int32 × ej_M), K (Sum.inl q) → ej_Z cX11_goTurns 9 (some .int) RX11 "goTurns" (e + 1) 83 [(0, .ref 41), (1, .int v1), (3, .int q.1), (4, .int v4), (5, .int v5), (6, .int q.2.1)] [] (ej_sh, q.2.2) res) (h2 : ∀ q : (Int32 × Int32 × ej_M), K (Sum.inr (Sum.inl q)) → ej_Z cX11_goTurns 9 (some .int) RX11 "goTurns" (e + 1) 51 [(0, .ref 41), (1, .int v1), (3, .int q.1), (4, .int q.2.1)] [] (ej_sh, q.2.2) res) (h0 : ∀ q : (Int32 × ej_M), K (Sum.inr (Sum.inr q)) → res = (some (Value.int q.1), (ej_sh, q.2))) : ej_Z cX11_goTurns 9 (some .int) RX11 "goTurns" (e + 1) 98 [(0, .ref 41), (1, .int v1), (3, .int v3), (4, .int v4), (5, .int v5), (6, .int v6), (7, .int v7)] [] (ej_sh, m) res :=
  oj_loop_Z (body := fun q : (Int32 × Int32 × ej_M) => f_X11_goTurns_L98b v1 v4 v5 v6 q.1 q.2.1 q.2.2) (P := fun q : (Int32 × Int32 × ej_M) => ej_Z cX11_goTurns 9 (some .int) RX11 "goTurns" (e + 1) 98 [(0, .ref 41), (1, .int v1), (3, .int q.1), (4, .int v4), (5, .int v5), (6, .int v6), (7, .int q.2.1)] [] (ej_sh, q.2.2) res) (K := K) (fun s x hb hl hr => b_X11_goTurns_L98b e hd v1 v4 v5 v6  s.1 s.2.1 s.2.2 (K := fun x => (∀ s' : (Int32 × Int32 × ej_M), x = Sum.inl s' → ej_Z cX11_goTurns 9 (some .int) RX11 "goTurns" (e + 1) 98 [(0, .ref 41), (1, .int v1), (3, .int s'.1), (4, .int v4), (5, .int v5), (6, .int v6), (7, .int s'.2.1)] [] (ej_sh, s'.2.2) res) ∧ ∀ e, x = Sum.inr e → K e) hb ⟨hl, hr⟩ (fun q hq => hq.1 q rfl) (fun q hq => h1 q (hq.2 _ rfl)) (fun q hq => h2 q (hq.2 _ rfl)) (fun q hq => h0 q (hq.2 _ rfl))) oj_FU (v3, v7, m) x hf hK
def f_X11_goTurns_L83b (v1 : Int32) (v4 : Int32) (v5 : Int32) (v3 : Int32) (v6 : Int32) (m : ej_M) : Option ((Int32 × Int32 × ej_M) ⊕ ((Int32 × Int32 × ej_M) ⊕ (Int32 × ej_M))) :=
  if (m.1 41 4) ≤ v6 then
    some (Sum.inr (Sum.inl (v3, (v4 + 1), m)))
  else
    f_X11_goTurns_L98 v1 v4 v5 v6 v3 (v6 + 1) m
set_option maxHeartbeats 4000000 in
set_option maxRecDepth 100000 in
theorem b_X11_goTurns_L83b (e : Nat) (hd : 4 ≤ e) (v1 : Int32) (v4 : Int32) (v5 : Int32) (v3 : Int32) (v6 : Int32) (m : ej_M) {x : ((Int32 × Int32 × ej_M) ⊕ ((Int32 × Int32 × ej_M) ⊕ (Int32 × ej_M)))} {res : Option Value × ej_H} {K : ((Int32 × Int32 × ej_M) ⊕ ((Int32 × Int32 × ej_M) ⊕ (Int32 × ej_M))) → Prop} (hf : f_X11_goTurns_L83b v1 v4 v5 v3 v6 m = some x) (hK : K x) (h1 : ∀ q : (Int32 × Int32 × ej_M), K (Sum.inl q) → ej_Z cX11_goTurns 9 (some .int) RX11 "goTurns" (e + 1) 83 [(0, .ref 41), (1, .int v1), (3, .int q.1), (4, .int v4), (5, .int v5), (6, .int q.2.1)] [] (ej_sh, q.2.2) res) (h2 : ∀ q : (Int32 × Int32 × ej_M), K (Sum.inr (Sum.inl q)) → ej_Z cX11_goTurns 9 (some .int) RX11 "goTurns" (e + 1) 51 [(0, .ref 41), (1, .int v1), (3, .int q.1), (4, .int q.2.1)] [] (ej_sh, q.2.2) res) (h0 : ∀ q : (Int32 × ej_M), K (Sum.inr (Sum.inr q)) → res = (some (Value.int q.1), (ej_sh, q.2))) : ej_Z cX11_goTurns 9 (some .int) RX11 "goTurns" (e + 1) 83 [(0, .ref 41), (1, .int v1), (3, .int v3), (4, .int v4), (5, .int v5), (6, .int v6)] [] (ej_sh, m) res := by
  unfold f_X11_goTurns_L83b at hf
  refine z_iload (pc := 83) (i := 6) (j := 5) dX11_goTurns_83 rfl ?_
  refine z_aload_n (pc := 85) (i := 0) (j := 0) dX11_goTurns_85 rfl rfl ?_
  refine z_ogetI (pc := 86) dX11_goTurns_86 lf_RX11_108 sh_41 rfl rfl ?_
  refine z_icmp_ge (pc := 89) (tgt := 188) dX11_goTurns_89 (by decide) (fun hc => ?_) (fun hc => ?_)
  · rw [if_pos hc] at hf
    refine z_iinc (pc := 188) (j := 3) (ls' := [(4, .int (v4 + 1)), (0, .ref 41), (1, .int v1), (3, .int v3), (5, .int v5), (6, .int v6)]) dX11_goTurns_188 rfl ki_1 (Nat.le_of_ble_eq_true rfl) rfl ?_
    refine z_goto (pc := 191) (tgt := 51) dX11_goTurns_191 (by decide) ?_
    obtain rfl := Option.some.inj hf
    exact z_pick (ls' := [(0, .ref 41), (1, .int v1), (3, .int v3), (4, .int (v4 + 1))]) [1, 2, 3, 0] rfl (h2 (v3, (v4 + 1), m) hK)
  · rw [if_neg hc] at hf
    refine z_iload (pc := 92) (i := 6) (j := 5) dX11_goTurns_92 rfl ?_
    refine z_iconst (pc := 94) dX11_goTurns_94 ki_1 ?_
    refine z_iadd (pc := 95) dX11_goTurns_95 ?_
    refine z_istore (pc := 96) (i := 7) (ls' := [(7, .int (v6 + 1)), (0, .ref 41), (1, .int v1), (3, .int v3), (4, .int v4), (5, .int v5), (6, .int v6)]) dX11_goTurns_96 (Nat.le_of_ble_eq_true rfl) rfl ?_
    exact z_pick [1, 2, 3, 4, 5, 6, 0] rfl (b_X11_goTurns_L98 e hd v1 v4 v5 v6 v3 (v6 + 1) m (K := K) hf hK h1 h2 h0)
def f_X11_goTurns_L83 (v1 : Int32) (v4 : Int32) (v5 : Int32) (v3 : Int32) (v6 : Int32) (m : ej_M) : Option ((Int32 × Int32 × ej_M) ⊕ (Int32 × ej_M)) := oj_loop (fun q : (Int32 × Int32 × ej_M) => f_X11_goTurns_L83b v1 v4 v5 q.1 q.2.1 q.2.2) oj_FU (v3, v6, m)
set_option maxHeartbeats 4000000 in
set_option maxRecDepth 100000 in
theorem b_X11_goTurns_L83 (e : Nat) (hd : 4 ≤ e) (v1 : Int32) (v4 : Int32) (v5 : Int32) (v3 : Int32) (v6 : Int32) (m : ej_M) {x : ((Int32 × Int32 × ej_M) ⊕ (Int32 × ej_M))} {res : Option Value × ej_H} {K : ((Int32 × Int32 × ej_M) ⊕ (Int32 × ej_M)) → Prop} (hf : f_X11_goTurns_L83 v1 v4 v5 v3 v6 m = some x) (hK : K x) (h1 : ∀ q : (Int32 × Int32 × ej_M), K (Sum.inl q) → ej_Z cX11_goTurns 9 (some .int) RX11 "goTurns" (e + 1) 51 [(0, .ref 41), (1, .int v1), (3, .int q.1), (4, .int q.2.1)] [] (ej_sh, q.2.2) res) (h0 : ∀ q : (Int32 × ej_M), K (Sum.inr q) → res = (some (Value.int q.1), (ej_sh, q.2))) : ej_Z cX11_goTurns 9 (some .int) RX11 "goTurns" (e + 1) 83 [(0, .ref 41), (1, .int v1), (3, .int v3), (4, .int v4), (5, .int v5), (6, .int v6)] [] (ej_sh, m) res :=
  oj_loop_Z (body := fun q : (Int32 × Int32 × ej_M) => f_X11_goTurns_L83b v1 v4 v5 q.1 q.2.1 q.2.2) (P := fun q : (Int32 × Int32 × ej_M) => ej_Z cX11_goTurns 9 (some .int) RX11 "goTurns" (e + 1) 83 [(0, .ref 41), (1, .int v1), (3, .int q.1), (4, .int v4), (5, .int v5), (6, .int q.2.1)] [] (ej_sh, q.2.2) res) (K := K) (fun s x hb hl hr => b_X11_goTurns_L83b e hd v1 v4 v5  s.1 s.2.1 s.2.2 (K := fun x => (∀ s' : (Int32 × Int32 × ej_M), x = Sum.inl s' → ej_Z cX11_goTurns 9 (some .int) RX11 "goTurns" (e + 1) 83 [(0, .ref 41), (1, .int v1), (3, .int s'.1), (4, .int v4), (5, .int v5), (6, .int s'.2.1)] [] (ej_sh, s'.2.2) res) ∧ ∀ e, x = Sum.inr e → K e) hb ⟨hl, hr⟩ (fun q hq => hq.1 q rfl) (fun q hq => h1 q (hq.2 _ rfl)) (fun q hq => h0 q (hq.2 _ rfl))) oj_FU (v3, v6, m) x hf hK
def f_X11_goTurns_L51b (v1 : Int32) (v3 : Int32) (v4 : Int32) (m : ej_M) : Option ((Int32 × Int32 × ej_M) ⊕ (Int32 × ej_M)) :=
  if v3 ≤ v4 then
    some (Sum.inr ((-2), m))
  else
    (oj_ld 2 m 61 v4).bind fun w1 =>
    if w1 = v1 then
      (oj_ld 2 m 60 w1).bind fun w2 =>
      some (Sum.inr (w2, m))
    else
      f_X11_goTurns_L83 v1 v4 w1 v3 0 m
set_option maxHeartbeats 4000000 in
set_option maxRecDepth 100000 in
theorem b_X11_goTurns_L51b (e : Nat) (hd : 4 ≤ e) (v1 : Int32) (v3 : Int32) (v4 : Int32) (m : ej_M) {x : ((Int32 × Int32 × ej_M) ⊕ (Int32 × ej_M))} {res : Option Value × ej_H} {K : ((Int32 × Int32 × ej_M) ⊕ (Int32 × ej_M)) → Prop} (hf : f_X11_goTurns_L51b v1 v3 v4 m = some x) (hK : K x) (h1 : ∀ q : (Int32 × Int32 × ej_M), K (Sum.inl q) → ej_Z cX11_goTurns 9 (some .int) RX11 "goTurns" (e + 1) 51 [(0, .ref 41), (1, .int v1), (3, .int q.1), (4, .int q.2.1)] [] (ej_sh, q.2.2) res) (h0 : ∀ q : (Int32 × ej_M), K (Sum.inr q) → res = (some (Value.int q.1), (ej_sh, q.2))) : ej_Z cX11_goTurns 9 (some .int) RX11 "goTurns" (e + 1) 51 [(0, .ref 41), (1, .int v1), (3, .int v3), (4, .int v4)] [] (ej_sh, m) res := by
  unfold f_X11_goTurns_L51b at hf
  refine z_iload (pc := 51) (i := 4) (j := 3) dX11_goTurns_51 rfl ?_
  refine z_iload_n (pc := 53) (i := 3) (j := 2) dX11_goTurns_53 rfl rfl ?_
  refine z_icmp_ge (pc := 54) (tgt := 194) dX11_goTurns_54 (by decide) (fun hc => ?_) (fun hc => ?_)
  · rw [if_pos hc] at hf
    refine z_bipush (pc := 194) dX11_goTurns_194 kb_n2 ?_
    obtain rfl := Option.some.inj hf
    rw [h0 _ hK]
    exact z_iret dX11_goTurns_196 rfl rfl
  · rw [if_neg hc] at hf
    refine z_aload_n (pc := 57) (i := 0) (j := 0) dX11_goTurns_57 rfl rfl ?_
    refine z_ogetR (pc := 58) dX11_goTurns_58 lf_RX11_69 sh_41 rfl rfl rfl ?_
    refine z_iload (pc := 61) (i := 4) (j := 3) dX11_goTurns_61 rfl ?_
    obtain ⟨w1, hw1, hf⟩ := Option.bind_eq_some_iff.mp hf
    refine z_osald (pc := 63) dX11_goTurns_63 hw1 ?_
    refine z_istore (pc := 64) (i := 5) (ls' := [(5, .int w1), (0, .ref 41), (1, .int v1), (3, .int v3), (4, .int v4)]) dX11_goTurns_64 (Nat.le_of_ble_eq_true rfl) rfl ?_
    refine z_iload (pc := 66) (i := 5) (j := 0) dX11_goTurns_66 rfl ?_
    refine z_iload_n (pc := 68) (i := 1) (j := 2) dX11_goTurns_68 rfl rfl ?_
    refine z_icmp_ne (pc := 69) (tgt := 80) dX11_goTurns_69 (by decide) (fun hc => ?_) (fun hc => ?_)
    · rw [if_neg hc] at hf
      refine z_iconst (pc := 80) dX11_goTurns_80 ki_0 ?_
      refine z_istore (pc := 81) (i := 6) (ls' := [(6, .int 0), (5, .int w1), (0, .ref 41), (1, .int v1), (3, .int v3), (4, .int v4)]) dX11_goTurns_81 (Nat.le_of_ble_eq_true rfl) rfl ?_
      exact z_pick [2, 3, 4, 5, 1, 0] rfl (b_X11_goTurns_L83 e hd v1 v4 w1 v3 0 m (K := K) hf hK h1 h0)
    · rw [if_pos hc] at hf
      refine z_aload_n (pc := 72) (i := 0) (j := 1) dX11_goTurns_72 rfl rfl ?_
      refine z_ogetR (pc := 73) dX11_goTurns_73 lf_RX11_66 sh_41 rfl rfl rfl ?_
      refine z_iload (pc := 76) (i := 5) (j := 0) dX11_goTurns_76 rfl ?_
      obtain ⟨w2, hw2, hf⟩ := Option.bind_eq_some_iff.mp hf
      refine z_osald (pc := 78) dX11_goTurns_78 hw2 ?_
      obtain rfl := Option.some.inj hf
      rw [h0 _ hK]
      exact z_iret dX11_goTurns_79 rfl rfl
def f_X11_goTurns_L51 (v1 : Int32) (v3 : Int32) (v4 : Int32) (m : ej_M) : Option (Int32 × ej_M) := oj_loop (fun q : (Int32 × Int32 × ej_M) => f_X11_goTurns_L51b v1 q.1 q.2.1 q.2.2) oj_FU (v3, v4, m)
set_option maxHeartbeats 4000000 in
set_option maxRecDepth 100000 in
theorem b_X11_goTurns_L51 (e : Nat) (hd : 4 ≤ e) (v1 : Int32) (v3 : Int32) (v4 : Int32) (m : ej_M) {x : (Int32 × ej_M)} {res : Option Value × ej_H} {K : (Int32 × ej_M) → Prop} (hf : f_X11_goTurns_L51 v1 v3 v4 m = some x) (hK : K x) (h0 : ∀ q : (Int32 × ej_M), K q → res = (some (Value.int q.1), (ej_sh, q.2))) : ej_Z cX11_goTurns 9 (some .int) RX11 "goTurns" (e + 1) 51 [(0, .ref 41), (1, .int v1), (3, .int v3), (4, .int v4)] [] (ej_sh, m) res :=
  oj_loop_Z (body := fun q : (Int32 × Int32 × ej_M) => f_X11_goTurns_L51b v1 q.1 q.2.1 q.2.2) (P := fun q : (Int32 × Int32 × ej_M) => ej_Z cX11_goTurns 9 (some .int) RX11 "goTurns" (e + 1) 51 [(0, .ref 41), (1, .int v1), (3, .int q.1), (4, .int q.2.1)] [] (ej_sh, q.2.2) res) (K := K) (fun s x hb hl hr => b_X11_goTurns_L51b e hd v1  s.1 s.2.1 s.2.2 (K := fun x => (∀ s' : (Int32 × Int32 × ej_M), x = Sum.inl s' → ej_Z cX11_goTurns 9 (some .int) RX11 "goTurns" (e + 1) 51 [(0, .ref 41), (1, .int v1), (3, .int s'.1), (4, .int s'.2.1)] [] (ej_sh, s'.2.2) res) ∧ ∀ e, x = Sum.inr e → K e) hb ⟨hl, hr⟩ (fun q hq => hq.1 q rfl) (fun q hq => h0 q (hq.2 _ rfl))) oj_FU (v3, v4, m) x hf hK
def f_X11_goTurns_L2b (v1 : Int32) (v2 : Int32) (m : ej_M) : Option ((Int32 × ej_M) ⊕ (Int32 × ej_M)) :=
  if 720 ≤ v2 then
    (f_X11_see m).bind fun q1 =>
    (f_X11_rankOf q1.2).bind fun q2 =>
    (oj_st 2 q2.2 60 q2.1 (vp_nar .short 0)).bind fun m3 =>
    (oj_st 2 m3 61 0 (vp_nar .short ((Int32.toInt16 q2.1).toInt32))).bind fun m4 =>
    (f_X11_goTurns_L51 v1 1 0 m4).map fun y => (Sum.inr y)
  else
    (oj_st 2 m 60 v2 (vp_nar .short (-1))).bind fun m5 =>
    some (Sum.inl ((v2 + 1), m5))
set_option maxHeartbeats 4000000 in
set_option maxRecDepth 100000 in
theorem b_X11_goTurns_L2b (e : Nat) (hd : 4 ≤ e) (v1 : Int32) (v2 : Int32) (m : ej_M) {x : ((Int32 × ej_M) ⊕ (Int32 × ej_M))} {res : Option Value × ej_H} {K : ((Int32 × ej_M) ⊕ (Int32 × ej_M)) → Prop} (hf : f_X11_goTurns_L2b v1 v2 m = some x) (hK : K x) (h1 : ∀ q : (Int32 × ej_M), K (Sum.inl q) → ej_Z cX11_goTurns 9 (some .int) RX11 "goTurns" (e + 1) 2 [(0, .ref 41), (1, .int v1), (2, .int q.1)] [] (ej_sh, q.2) res) (h0 : ∀ q : (Int32 × ej_M), K (Sum.inr q) → res = (some (Value.int q.1), (ej_sh, q.2))) : ej_Z cX11_goTurns 9 (some .int) RX11 "goTurns" (e + 1) 2 [(0, .ref 41), (1, .int v1), (2, .int v2)] [] (ej_sh, m) res := by
  unfold f_X11_goTurns_L2b at hf
  refine z_iload_n (pc := 2) (i := 2) (j := 2) dX11_goTurns_2 rfl rfl ?_
  refine z_sipush (pc := 3) dX11_goTurns_3 ks_720 ?_
  refine z_icmp_ge (pc := 6) (tgt := 22) dX11_goTurns_6 (by decide) (fun hc => ?_) (fun hc => ?_)
  · rw [if_pos hc] at hf
    refine z_aload_n (pc := 22) (i := 0) (j := 0) dX11_goTurns_22 rfl rfl ?_
    obtain ⟨q1, hq1, hf⟩ := Option.bind_eq_some_iff.mp hf
    refine z_oVv (pc := 23) (as := []) (rest := []) dX11_goTurns_23 lm_RX11_227 mf_X11_see mi_X11_see mv_X11_see rc_41 rfl rfl (Nat.le_of_ble_eq_true rfl) (c_X11_see e (by omega) m hq1) ?_
    refine z_aload_n (pc := 26) (i := 0) (j := 0) dX11_goTurns_26 rfl rfl ?_
    obtain ⟨q2, hq2, hf⟩ := Option.bind_eq_some_iff.mp hf
    refine z_oVi (pc := 27) (as := []) (rest := []) dX11_goTurns_27 lm_RX11_313 mf_X11_rankOf mi_X11_rankOf mv_X11_rankOf rc_41 rfl rfl (Nat.le_of_ble_eq_true rfl) (c_X11_rankOf e (by omega) q1.2 hq2) ?_
    refine z_istore_n (pc := 30) (i := 2) (ls' := [(2, .int q2.1), (0, .ref 41), (1, .int v1)]) dX11_goTurns_30 rfl (Nat.le_of_ble_eq_true rfl) rfl ?_
    refine z_aload_n (pc := 31) (i := 0) (j := 1) dX11_goTurns_31 rfl rfl ?_
    refine z_ogetR (pc := 32) dX11_goTurns_32 lf_RX11_66 sh_41 rfl rfl rfl ?_
    refine z_iload_n (pc := 35) (i := 2) (j := 0) dX11_goTurns_35 rfl rfl ?_
    refine z_iconst (pc := 36) dX11_goTurns_36 ki_0 ?_
    obtain ⟨m3, hm3, hf⟩ := Option.bind_eq_some_iff.mp hf
    refine z_osast (pc := 37) dX11_goTurns_37 hm3 ?_
    refine z_aload_n (pc := 38) (i := 0) (j := 1) dX11_goTurns_38 rfl rfl ?_
    refine z_ogetR (pc := 39) dX11_goTurns_39 lf_RX11_69 sh_41 rfl rfl rfl ?_
    refine z_iconst (pc := 42) dX11_goTurns_42 ki_0 ?_
    refine z_iload_n (pc := 43) (i := 2) (j := 0) dX11_goTurns_43 rfl rfl ?_
    refine z_i2s (pc := 44) dX11_goTurns_44 ?_
    obtain ⟨m4, hm4, hf⟩ := Option.bind_eq_some_iff.mp hf
    refine z_osast (pc := 45) dX11_goTurns_45 hm4 ?_
    refine z_iconst (pc := 46) dX11_goTurns_46 ki_1 ?_
    refine z_istore_n (pc := 47) (i := 3) (ls' := [(3, .int 1), (2, .int q2.1), (0, .ref 41), (1, .int v1)]) dX11_goTurns_47 rfl (Nat.le_of_ble_eq_true rfl) rfl ?_
    refine z_iconst (pc := 48) dX11_goTurns_48 ki_0 ?_
    refine z_istore (pc := 49) (i := 4) (ls' := [(4, .int 0), (3, .int 1), (2, .int q2.1), (0, .ref 41), (1, .int v1)]) dX11_goTurns_49 (Nat.le_of_ble_eq_true rfl) rfl ?_
    obtain ⟨y, hy, hxy⟩ := Option.map_eq_some_iff.mp hf
    subst hxy
    exact z_pick [3, 4, 1, 0] rfl (b_X11_goTurns_L51 e hd v1 1 0 m4 (K := fun y => K (Sum.inr y)) hy hK  h0)
  · rw [if_neg hc] at hf
    refine z_aload_n (pc := 9) (i := 0) (j := 0) dX11_goTurns_9 rfl rfl ?_
    refine z_ogetR (pc := 10) dX11_goTurns_10 lf_RX11_66 sh_41 rfl rfl rfl ?_
    refine z_iload_n (pc := 13) (i := 2) (j := 2) dX11_goTurns_13 rfl rfl ?_
    refine z_iconst (pc := 14) dX11_goTurns_14 ki_n1 ?_
    obtain ⟨m5, hm5, hf⟩ := Option.bind_eq_some_iff.mp hf
    refine z_osast (pc := 15) dX11_goTurns_15 hm5 ?_
    refine z_iinc (pc := 16) (j := 2) (ls' := [(2, .int (v2 + 1)), (0, .ref 41), (1, .int v1)]) dX11_goTurns_16 rfl ki_1 (Nat.le_of_ble_eq_true rfl) rfl ?_
    refine z_goto (pc := 19) (tgt := 2) dX11_goTurns_19 (by decide) ?_
    obtain rfl := Option.some.inj hf
    exact z_pick (ls' := [(0, .ref 41), (1, .int v1), (2, .int (v2 + 1))]) [1, 2, 0] rfl (h1 ((v2 + 1), m5) hK)
def f_X11_goTurns_L2 (v1 : Int32) (v2 : Int32) (m : ej_M) : Option (Int32 × ej_M) := oj_loop (fun q : (Int32 × ej_M) => f_X11_goTurns_L2b v1 q.1 q.2) oj_FU (v2, m)
set_option maxHeartbeats 4000000 in
set_option maxRecDepth 100000 in
theorem b_X11_goTurns_L2 (e : Nat) (hd : 4 ≤ e) (v1 : Int32) (v2 : Int32) (m : ej_M) {x : (Int32 × ej_M)} {res : Option Value × ej_H} {K : (Int32 × ej_M) → Prop} (hf : f_X11_goTurns_L2 v1 v2 m = some x) (hK : K x) (h0 : ∀ q : (Int32 × ej_M), K q → res = (some (Value.int q.1), (ej_sh, q.2))) : ej_Z cX11_goTurns 9 (some .int) RX11 "goTurns" (e + 1) 2 [(0, .ref 41), (1, .int v1), (2, .int v2)] [] (ej_sh, m) res :=
  oj_loop_Z (body := fun q : (Int32 × ej_M) => f_X11_goTurns_L2b v1 q.1 q.2) (P := fun q : (Int32 × ej_M) => ej_Z cX11_goTurns 9 (some .int) RX11 "goTurns" (e + 1) 2 [(0, .ref 41), (1, .int v1), (2, .int q.1)] [] (ej_sh, q.2) res) (K := K) (fun s x hb hl hr => b_X11_goTurns_L2b e hd v1  s.1 s.2 (K := fun x => (∀ s' : (Int32 × ej_M), x = Sum.inl s' → ej_Z cX11_goTurns 9 (some .int) RX11 "goTurns" (e + 1) 2 [(0, .ref 41), (1, .int v1), (2, .int s'.1)] [] (ej_sh, s'.2) res) ∧ ∀ e, x = Sum.inr e → K e) hb ⟨hl, hr⟩ (fun q hq => hq.1 q rfl) (fun q hq => h0 q (hq.2 _ rfl))) oj_FU (v2, m) x hf hK
def f_X11_goTurns (v1 : Int32) (m : ej_M) : Option (Int32 × ej_M) :=
  f_X11_goTurns_L2 v1 0 m
set_option maxHeartbeats 4000000 in
set_option maxRecDepth 100000 in
theorem b_X11_goTurns (e : Nat) (hd : 4 ≤ e) (v1 : Int32) (m : ej_M) {x : (Int32 × ej_M)} {res : Option Value × ej_H} {K : (Int32 × ej_M) → Prop} (hf : f_X11_goTurns v1 m = some x) (hK : K x) (h0 : ∀ q : (Int32 × ej_M), K q → res = (some (Value.int q.1), (ej_sh, q.2))) : ej_Z cX11_goTurns 9 (some .int) RX11 "goTurns" (e + 1) 0 [(0, .ref 41), (1, .int v1)] [] (ej_sh, m) res := by
  unfold f_X11_goTurns at hf
  refine z_iconst (pc := 0) dX11_goTurns_0 ki_0 ?_
  refine z_istore_n (pc := 1) (i := 2) (ls' := [(2, .int 0), (0, .ref 41), (1, .int v1)]) dX11_goTurns_1 rfl (Nat.le_of_ble_eq_true rfl) rfl ?_
  exact z_pick [1, 2, 0] rfl (b_X11_goTurns_L2 e hd v1 0 m (K := K) hf hK  h0)
set_option maxHeartbeats 4000000 in
set_option maxRecDepth 100000 in
theorem c_X11_goTurns (d : Nat) (hd : 5 ≤ d) (v1 : Int32) (m : ej_M) {q : (Int32 × ej_M)} (hf : f_X11_goTurns v1 m = some q) : ej_Ct yX11_goTurns cX11_goTurns 9 (some .int) d [.ref 41, .int v1] (ej_sh, m) ((some (Value.int q.1), (ej_sh, q.2)) : Option Value × ej_H) := by
  obtain ⟨e, rfl⟩ : ∃ e, d = e + 1 := ⟨d - 1, by omega⟩
  exact z_met (by decide +kernel) (Nat.le_of_ble_eq_true rfl) (b_X11_goTurns e (by omega) v1 m (K := fun z => ((some (Value.int q.1), (ej_sh, q.2)) : Option Value × ej_H) = (some (Value.int z.1), (ej_sh, z.2))) hf rfl (fun _ h => h))
def f_X11_rowFault (v1 : Int32) (m : ej_M) : Option (Int32 × ej_M) :=
  (oj_ld 0 m 66 v1).bind fun w1 =>
  if w1 = (-1) then
    some ((-11), m)
  else
    (oj_ld 0 m 66 v1).bind fun w2 =>
    if w2 = (-2) then
      some (0, m)
    else
      some ((-12), m)
set_option maxHeartbeats 4000000 in
set_option maxRecDepth 100000 in
theorem b_X11_rowFault (d : Nat) (v1 : Int32) (m : ej_M) {x : (Int32 × ej_M)} {res : Option Value × ej_H} {K : (Int32 × ej_M) → Prop} (hf : f_X11_rowFault v1 m = some x) (hK : K x) (h0 : ∀ q : (Int32 × ej_M), K q → res = (some (Value.int q.1), (ej_sh, q.2))) : ej_Z cX11_rowFault 2 (some .int) RX11 "rowFault" d 0 [(0, .ref 41), (1, .int v1)] [] (ej_sh, m) res := by
  unfold f_X11_rowFault at hf
  refine z_aload_n (pc := 0) (i := 0) (j := 0) dX11_rowFault_0 rfl rfl ?_
  refine z_ogetR (pc := 1) dX11_rowFault_1 lf_RX11_84 sh_41 rfl rfl rfl ?_
  refine z_iload_n (pc := 4) (i := 1) (j := 1) dX11_rowFault_4 rfl rfl ?_
  obtain ⟨w1, hw1, hf⟩ := Option.bind_eq_some_iff.mp hf
  refine z_oiald (pc := 5) dX11_rowFault_5 hw1 ?_
  refine z_iconst (pc := 6) dX11_rowFault_6 ki_n1 ?_
  refine z_icmp_ne (pc := 7) (tgt := 15) dX11_rowFault_7 (by decide) (fun hc => ?_) (fun hc => ?_)
  · rw [if_neg hc] at hf
    refine z_aload_n (pc := 15) (i := 0) (j := 0) dX11_rowFault_15 rfl rfl ?_
    refine z_ogetR (pc := 16) dX11_rowFault_16 lf_RX11_84 sh_41 rfl rfl rfl ?_
    refine z_iload_n (pc := 19) (i := 1) (j := 1) dX11_rowFault_19 rfl rfl ?_
    obtain ⟨w2, hw2, hf⟩ := Option.bind_eq_some_iff.mp hf
    refine z_oiald (pc := 20) dX11_rowFault_20 hw2 ?_
    refine z_bipush (pc := 21) dX11_rowFault_21 kb_n2 ?_
    refine z_icmp_ne (pc := 23) (tgt := 30) dX11_rowFault_23 (by decide) (fun hc => ?_) (fun hc => ?_)
    · rw [if_neg hc] at hf
      refine z_bipush (pc := 30) dX11_rowFault_30 kb_n12 ?_
      obtain rfl := Option.some.inj hf
      rw [h0 _ hK]
      exact z_iret dX11_rowFault_32 rfl rfl
    · rw [if_pos hc] at hf
      refine z_iconst (pc := 26) dX11_rowFault_26 ki_0 ?_
      refine z_goto (pc := 27) (tgt := 32) dX11_rowFault_27 (by decide) ?_
      obtain rfl := Option.some.inj hf
      rw [h0 _ hK]
      exact z_iret dX11_rowFault_32 rfl rfl
  · rw [if_pos hc] at hf
    refine z_bipush (pc := 10) dX11_rowFault_10 kb_n11 ?_
    refine z_goto (pc := 12) (tgt := 32) dX11_rowFault_12 (by decide) ?_
    obtain rfl := Option.some.inj hf
    rw [h0 _ hK]
    exact z_iret dX11_rowFault_32 rfl rfl
set_option maxHeartbeats 4000000 in
set_option maxRecDepth 100000 in
theorem c_X11_rowFault (d : Nat) (hd : 0 ≤ d) (v1 : Int32) (m : ej_M) {q : (Int32 × ej_M)} (hf : f_X11_rowFault v1 m = some q) : ej_Ct yX11_rowFault cX11_rowFault 2 (some .int) d [.ref 41, .int v1] (ej_sh, m) ((some (Value.int q.1), (ej_sh, q.2)) : Option Value × ej_H) := by
  exact z_met (by decide +kernel) (Nat.le_of_ble_eq_true rfl) (b_X11_rowFault d v1 m (K := fun z => ((some (Value.int q.1), (ej_sh, q.2)) : Option Value × ej_H) = (some (Value.int z.1), (ej_sh, z.2))) hf rfl (fun _ h => h))
def f_X11_fewest_L136b (v3 : Int32) (m : ej_M) : Option ((Int32 × ej_M) ⊕ (Int32 × ej_M)) :=
  if (m.1 41 4) ≤ v3 then
    (f_X11_rankOf m).bind fun q1 =>
    (f_X11_goTurns q1.1 q1.2).bind fun q2 =>
    some (Sum.inr (q2.1, q2.2))
  else
    (oj_ld 0 m 62 v3).bind fun w3 =>
    (oj_st 0 m 56 v3 w3).bind fun m4 =>
    some (Sum.inl ((v3 + 1), m4))
set_option maxHeartbeats 4000000 in
set_option maxRecDepth 100000 in
theorem b_X11_fewest_L136b (e : Nat) (hd : 5 ≤ e) (v3 : Int32) (m : ej_M) {x : ((Int32 × ej_M) ⊕ (Int32 × ej_M))} {res : Option Value × ej_H} {K : ((Int32 × ej_M) ⊕ (Int32 × ej_M)) → Prop} (hf : f_X11_fewest_L136b v3 m = some x) (hK : K x) (h1 : ∀ q : (Int32 × ej_M), K (Sum.inl q) → ej_Z cX11_fewest 5 (some .int) RX11 "fewest" (e + 1) 136 [(0, .ref 41), (3, .int q.1)] [] (ej_sh, q.2) res) (h0 : ∀ q : (Int32 × ej_M), K (Sum.inr q) → res = (some (Value.int q.1), (ej_sh, q.2))) : ej_Z cX11_fewest 5 (some .int) RX11 "fewest" (e + 1) 136 [(0, .ref 41), (3, .int v3)] [] (ej_sh, m) res := by
  unfold f_X11_fewest_L136b at hf
  refine z_iload_n (pc := 136) (i := 3) (j := 1) dX11_fewest_136 rfl rfl ?_
  refine z_aload_n (pc := 137) (i := 0) (j := 0) dX11_fewest_137 rfl rfl ?_
  refine z_ogetI (pc := 138) dX11_fewest_138 lf_RX11_108 sh_41 rfl rfl ?_
  refine z_icmp_ge (pc := 141) (tgt := 162) dX11_fewest_141 (by decide) (fun hc => ?_) (fun hc => ?_)
  · rw [if_pos hc] at hf
    refine z_aload_n (pc := 162) (i := 0) (j := 0) dX11_fewest_162 rfl rfl ?_
    refine z_aload_n (pc := 163) (i := 0) (j := 0) dX11_fewest_163 rfl rfl ?_
    obtain ⟨q1, hq1, hf⟩ := Option.bind_eq_some_iff.mp hf
    refine z_oVi (pc := 164) (as := []) (rest := [.ref 41]) dX11_fewest_164 lm_RX11_313 mf_X11_rankOf mi_X11_rankOf mv_X11_rankOf rc_41 rfl rfl (Nat.le_of_ble_eq_true rfl) (c_X11_rankOf e (by omega) m hq1) ?_
    obtain ⟨q2, hq2, hf⟩ := Option.bind_eq_some_iff.mp hf
    refine z_oVi (pc := 167) (as := [.int q1.1]) (rest := []) dX11_fewest_167 lm_RX11_322 mf_X11_goTurns mi_X11_goTurns mv_X11_goTurns rc_41 rfl rfl (Nat.le_of_ble_eq_true rfl) (c_X11_goTurns e (by omega) q1.1 q1.2 hq2) ?_
    obtain rfl := Option.some.inj hf
    rw [h0 _ hK]
    exact z_iret dX11_fewest_170 rfl rfl
  · rw [if_neg hc] at hf
    refine z_aload_n (pc := 144) (i := 0) (j := 0) dX11_fewest_144 rfl rfl ?_
    refine z_ogetR (pc := 145) dX11_fewest_145 lf_RX11_54 sh_41 rfl rfl rfl ?_
    refine z_iload_n (pc := 148) (i := 3) (j := 1) dX11_fewest_148 rfl rfl ?_
    refine z_aload_n (pc := 149) (i := 0) (j := 0) dX11_fewest_149 rfl rfl ?_
    refine z_ogetR (pc := 150) dX11_fewest_150 lf_RX11_72 sh_41 rfl rfl rfl ?_
    refine z_iload_n (pc := 153) (i := 3) (j := 1) dX11_fewest_153 rfl rfl ?_
    obtain ⟨w3, hw3, hf⟩ := Option.bind_eq_some_iff.mp hf
    refine z_oiald (pc := 154) dX11_fewest_154 hw3 ?_
    obtain ⟨m4, hm4, hf⟩ := Option.bind_eq_some_iff.mp hf
    refine z_oiast (pc := 155) dX11_fewest_155 hm4 ?_
    refine z_iinc (pc := 156) (j := 1) (ls' := [(3, .int (v3 + 1)), (0, .ref 41)]) dX11_fewest_156 rfl ki_1 (Nat.le_of_ble_eq_true rfl) rfl ?_
    refine z_goto (pc := 159) (tgt := 136) dX11_fewest_159 (by decide) ?_
    obtain rfl := Option.some.inj hf
    exact z_pick (ls' := [(0, .ref 41), (3, .int (v3 + 1))]) [1, 0] rfl (h1 ((v3 + 1), m4) hK)
def f_X11_fewest_L136 (v3 : Int32) (m : ej_M) : Option (Int32 × ej_M) := oj_loop (fun q : (Int32 × ej_M) => f_X11_fewest_L136b q.1 q.2) oj_FU (v3, m)
set_option maxHeartbeats 4000000 in
set_option maxRecDepth 100000 in
theorem b_X11_fewest_L136 (e : Nat) (hd : 5 ≤ e) (v3 : Int32) (m : ej_M) {x : (Int32 × ej_M)} {res : Option Value × ej_H} {K : (Int32 × ej_M) → Prop} (hf : f_X11_fewest_L136 v3 m = some x) (hK : K x) (h0 : ∀ q : (Int32 × ej_M), K q → res = (some (Value.int q.1), (ej_sh, q.2))) : ej_Z cX11_fewest 5 (some .int) RX11 "fewest" (e + 1) 136 [(0, .ref 41), (3, .int v3)] [] (ej_sh, m) res :=
  oj_loop_Z (body := fun q : (Int32 × ej_M) => f_X11_fewest_L136b q.1 q.2) (P := fun q : (Int32 × ej_M) => ej_Z cX11_fewest 5 (some .int) RX11 "fewest" (e + 1) 136 [(0, .ref 41), (3, .int q.1)] [] (ej_sh, q.2) res) (K := K) (fun s x hb hl hr => b_X11_fewest_L136b e hd  s.1 s.2 (K := fun x => (∀ s' : (Int32 × ej_M), x = Sum.inl s' → ej_Z cX11_fewest 5 (some .int) RX11 "fewest" (e + 1) 136 [(0, .ref 41), (3, .int s'.1)] [] (ej_sh, s'.2) res) ∧ ∀ e, x = Sum.inr e → K e) hb ⟨hl, hr⟩ (fun q hq => hq.1 q rfl) (fun q hq => h0 q (hq.2 _ rfl))) oj_FU (v3, m) x hf hK
def f_X11_fewest_L52b (v1 : Int32) (v2 : Int32) (v3 : Int32) (m : ej_M) : Option ((Int32 × Int32 × ej_M) ⊕ (Int32 × ej_M)) :=
  if (m.1 41 4) ≤ v3 then
    (oj_pf m 41 29 (m.1 41 4)).bind fun m1 =>
    (f_X11_fewest_L136 0 m1).map fun y => (Sum.inr y)
  else
    (oj_ll m 68 ((60 * v1) + v3)).bind fun w2 =>
    (f_X11_isStone (Int64.toInt32 w2) m).bind fun q3 =>
    if q3.1 = 0 then
      some (Sum.inr ((-5), q3.2))
    else
      (f_X11_placeOf (Int64.toInt32 w2) q3.2).bind fun q4 =>
      if q4.1 < 0 then
        some (Sum.inr ((-5), q4.2))
      else
        if ((v2 >>> ((Int64.toInt32 w2) &&& 31)) &&& 1) = 1 then
          some (Sum.inr ((-5), q4.2))
        else
          (oj_st 0 q4.2 62 v3 (Int64.toInt32 w2)).bind fun m5 =>
          some (Sum.inl ((v2 ||| (1 <<< ((Int64.toInt32 w2) &&& 31))), (v3 + 1), m5))
set_option maxHeartbeats 4000000 in
set_option maxRecDepth 100000 in
theorem b_X11_fewest_L52b (e : Nat) (hd : 5 ≤ e) (v1 : Int32) (v2 : Int32) (v3 : Int32) (m : ej_M) {x : ((Int32 × Int32 × ej_M) ⊕ (Int32 × ej_M))} {res : Option Value × ej_H} {K : ((Int32 × Int32 × ej_M) ⊕ (Int32 × ej_M)) → Prop} (hf : f_X11_fewest_L52b v1 v2 v3 m = some x) (hK : K x) (h1 : ∀ q : (Int32 × Int32 × ej_M), K (Sum.inl q) → ej_Z cX11_fewest 5 (some .int) RX11 "fewest" (e + 1) 52 [(0, .ref 41), (1, .int v1), (2, .int q.1), (3, .int q.2.1)] [] (ej_sh, q.2.2) res) (h0 : ∀ q : (Int32 × ej_M), K (Sum.inr q) → res = (some (Value.int q.1), (ej_sh, q.2))) : ej_Z cX11_fewest 5 (some .int) RX11 "fewest" (e + 1) 52 [(0, .ref 41), (1, .int v1), (2, .int v2), (3, .int v3)] [] (ej_sh, m) res := by
  unfold f_X11_fewest_L52b at hf
  refine z_iload_n (pc := 52) (i := 3) (j := 3) dX11_fewest_52 rfl rfl ?_
  refine z_aload_n (pc := 53) (i := 0) (j := 0) dX11_fewest_53 rfl rfl ?_
  refine z_ogetI (pc := 54) dX11_fewest_54 lf_RX11_108 sh_41 rfl rfl ?_
  refine z_icmp_ge (pc := 57) (tgt := 126) dX11_fewest_57 (by decide) (fun hc => ?_) (fun hc => ?_)
  · rw [if_pos hc] at hf
    refine z_aload_n (pc := 126) (i := 0) (j := 0) dX11_fewest_126 rfl rfl ?_
    refine z_aload_n (pc := 127) (i := 0) (j := 0) dX11_fewest_127 rfl rfl ?_
    refine z_ogetI (pc := 128) dX11_fewest_128 lf_RX11_108 sh_41 rfl rfl ?_
    obtain ⟨m1, hm1, hf⟩ := Option.bind_eq_some_iff.mp hf
    refine z_oputI (pc := 131) dX11_fewest_131 lf_RX11_212 sh_41 rfl hm1 ?_
    refine z_iconst (pc := 134) dX11_fewest_134 ki_0 ?_
    refine z_istore_n (pc := 135) (i := 3) (ls' := [(3, .int 0), (0, .ref 41), (1, .int v1), (2, .int v2)]) dX11_fewest_135 rfl (Nat.le_of_ble_eq_true rfl) rfl ?_
    obtain ⟨y, hy, hxy⟩ := Option.map_eq_some_iff.mp hf
    subst hxy
    exact z_pick [1, 0] rfl (b_X11_fewest_L136 e hd 0 m1 (K := fun y => K (Sum.inr y)) hy hK  h0)
  · rw [if_neg hc] at hf
    refine z_aload_n (pc := 60) (i := 0) (j := 0) dX11_fewest_60 rfl rfl ?_
    refine z_ogetR (pc := 61) dX11_fewest_61 lf_RX11_90 sh_41 rfl rfl rfl ?_
    refine z_bipush (pc := 64) dX11_fewest_64 kb_60 ?_
    refine z_iload_n (pc := 66) (i := 1) (j := 1) dX11_fewest_66 rfl rfl ?_
    refine z_imul (pc := 67) dX11_fewest_67 ?_
    refine z_iload_n (pc := 68) (i := 3) (j := 3) dX11_fewest_68 rfl rfl ?_
    refine z_iadd (pc := 69) dX11_fewest_69 ?_
    obtain ⟨w2, hw2, hf⟩ := Option.bind_eq_some_iff.mp hf
    refine z_olald (pc := 70) dX11_fewest_70 hw2 ?_
    refine z_l2i (pc := 71) dX11_fewest_71 ?_
    refine z_istore (pc := 72) (i := 4) (ls' := [(4, .int (Int64.toInt32 w2)), (0, .ref 41), (1, .int v1), (2, .int v2), (3, .int v3)]) dX11_fewest_72 (Nat.le_of_ble_eq_true rfl) rfl ?_
    refine z_aload_n (pc := 74) (i := 0) (j := 1) dX11_fewest_74 rfl rfl ?_
    refine z_iload (pc := 75) (i := 4) (j := 0) dX11_fewest_75 rfl ?_
    obtain ⟨q3, hq3, hf⟩ := Option.bind_eq_some_iff.mp hf
    refine z_oVi (pc := 77) (as := [.int (Int64.toInt32 w2)]) (rest := []) dX11_fewest_77 lm_RX11_136 mf_X11_isStone mi_X11_isStone mv_X11_isStone rc_41 rfl rfl (Nat.le_of_ble_eq_true rfl) (c_X11_isStone e (by omega) (Int64.toInt32 w2) m hq3) ?_
    refine z_if_eq (pc := 80) (tgt := 102) dX11_fewest_80 (by decide) (fun hc => ?_) (fun hc => ?_)
    · rw [if_pos hc] at hf
      refine z_bipush (pc := 102) dX11_fewest_102 kb_n5 ?_
      obtain rfl := Option.some.inj hf
      rw [h0 _ hK]
      exact z_iret dX11_fewest_104 rfl rfl
    · rw [if_neg hc] at hf
      refine z_aload_n (pc := 83) (i := 0) (j := 1) dX11_fewest_83 rfl rfl ?_
      refine z_iload (pc := 84) (i := 4) (j := 0) dX11_fewest_84 rfl ?_
      obtain ⟨q4, hq4, hf⟩ := Option.bind_eq_some_iff.mp hf
      refine z_oVi (pc := 86) (as := [.int (Int64.toInt32 w2)]) (rest := []) dX11_fewest_86 lm_RX11_233 mf_X11_placeOf mi_X11_placeOf mv_X11_placeOf rc_41 rfl rfl (Nat.le_of_ble_eq_true rfl) (c_X11_placeOf e (by omega) (Int64.toInt32 w2) q3.2 hq4) ?_
      refine z_if_lt (pc := 89) (tgt := 102) dX11_fewest_89 (by decide) (fun hc => ?_) (fun hc => ?_)
      · rw [if_pos hc] at hf
        refine z_bipush (pc := 102) dX11_fewest_102 kb_n5 ?_
        obtain rfl := Option.some.inj hf
        rw [h0 _ hK]
        exact z_iret dX11_fewest_104 rfl rfl
      · rw [if_neg hc] at hf
        refine z_iload_n (pc := 92) (i := 2) (j := 3) dX11_fewest_92 rfl rfl ?_
        refine z_iload (pc := 93) (i := 4) (j := 0) dX11_fewest_93 rfl ?_
        refine z_ishr (pc := 95) dX11_fewest_95 ?_
        refine z_iconst (pc := 96) dX11_fewest_96 ki_1 ?_
        refine z_iand (pc := 97) dX11_fewest_97 ?_
        refine z_iconst (pc := 98) dX11_fewest_98 ki_1 ?_
        refine z_icmp_ne (pc := 99) (tgt := 105) dX11_fewest_99 (by decide) (fun hc => ?_) (fun hc => ?_)
        · rw [if_neg hc] at hf
          refine z_iload_n (pc := 105) (i := 2) (j := 3) dX11_fewest_105 rfl rfl ?_
          refine z_iconst (pc := 106) dX11_fewest_106 ki_1 ?_
          refine z_iload (pc := 107) (i := 4) (j := 0) dX11_fewest_107 rfl ?_
          refine z_ishl (pc := 109) dX11_fewest_109 ?_
          refine z_ior (pc := 110) dX11_fewest_110 ?_
          refine z_istore_n (pc := 111) (i := 2) (ls' := [(2, .int (v2 ||| (1 <<< ((Int64.toInt32 w2) &&& 31)))), (4, .int (Int64.toInt32 w2)), (0, .ref 41), (1, .int v1), (3, .int v3)]) dX11_fewest_111 rfl (Nat.le_of_ble_eq_true rfl) rfl ?_
          refine z_aload_n (pc := 112) (i := 0) (j := 2) dX11_fewest_112 rfl rfl ?_
          refine z_ogetR (pc := 113) dX11_fewest_113 lf_RX11_72 sh_41 rfl rfl rfl ?_
          refine z_iload_n (pc := 116) (i := 3) (j := 4) dX11_fewest_116 rfl rfl ?_
          refine z_iload (pc := 117) (i := 4) (j := 1) dX11_fewest_117 rfl ?_
          obtain ⟨m5, hm5, hf⟩ := Option.bind_eq_some_iff.mp hf
          refine z_oiast (pc := 119) dX11_fewest_119 hm5 ?_
          refine z_iinc (pc := 120) (j := 4) (ls' := [(3, .int (v3 + 1)), (2, .int (v2 ||| (1 <<< ((Int64.toInt32 w2) &&& 31)))), (4, .int (Int64.toInt32 w2)), (0, .ref 41), (1, .int v1)]) dX11_fewest_120 rfl ki_1 (Nat.le_of_ble_eq_true rfl) rfl ?_
          refine z_goto (pc := 123) (tgt := 52) dX11_fewest_123 (by decide) ?_
          obtain rfl := Option.some.inj hf
          exact z_pick (ls' := [(0, .ref 41), (1, .int v1), (2, .int (v2 ||| (1 <<< ((Int64.toInt32 w2) &&& 31)))), (3, .int (v3 + 1))]) [3, 4, 1, 0] rfl (h1 ((v2 ||| (1 <<< ((Int64.toInt32 w2) &&& 31))), (v3 + 1), m5) hK)
        · rw [if_pos hc] at hf
          refine z_bipush (pc := 102) dX11_fewest_102 kb_n5 ?_
          obtain rfl := Option.some.inj hf
          rw [h0 _ hK]
          exact z_iret dX11_fewest_104 rfl rfl
def f_X11_fewest_L52 (v1 : Int32) (v2 : Int32) (v3 : Int32) (m : ej_M) : Option (Int32 × ej_M) := oj_loop (fun q : (Int32 × Int32 × ej_M) => f_X11_fewest_L52b v1 q.1 q.2.1 q.2.2) oj_FU (v2, v3, m)
set_option maxHeartbeats 4000000 in
set_option maxRecDepth 100000 in
theorem b_X11_fewest_L52 (e : Nat) (hd : 5 ≤ e) (v1 : Int32) (v2 : Int32) (v3 : Int32) (m : ej_M) {x : (Int32 × ej_M)} {res : Option Value × ej_H} {K : (Int32 × ej_M) → Prop} (hf : f_X11_fewest_L52 v1 v2 v3 m = some x) (hK : K x) (h0 : ∀ q : (Int32 × ej_M), K q → res = (some (Value.int q.1), (ej_sh, q.2))) : ej_Z cX11_fewest 5 (some .int) RX11 "fewest" (e + 1) 52 [(0, .ref 41), (1, .int v1), (2, .int v2), (3, .int v3)] [] (ej_sh, m) res :=
  oj_loop_Z (body := fun q : (Int32 × Int32 × ej_M) => f_X11_fewest_L52b v1 q.1 q.2.1 q.2.2) (P := fun q : (Int32 × Int32 × ej_M) => ej_Z cX11_fewest 5 (some .int) RX11 "fewest" (e + 1) 52 [(0, .ref 41), (1, .int v1), (2, .int q.1), (3, .int q.2.1)] [] (ej_sh, q.2.2) res) (K := K) (fun s x hb hl hr => b_X11_fewest_L52b e hd v1  s.1 s.2.1 s.2.2 (K := fun x => (∀ s' : (Int32 × Int32 × ej_M), x = Sum.inl s' → ej_Z cX11_fewest 5 (some .int) RX11 "fewest" (e + 1) 52 [(0, .ref 41), (1, .int v1), (2, .int s'.1), (3, .int s'.2.1)] [] (ej_sh, s'.2.2) res) ∧ ∀ e, x = Sum.inr e → K e) hb ⟨hl, hr⟩ (fun q hq => hq.1 q rfl) (fun q hq => h0 q (hq.2 _ rfl))) oj_FU (v2, v3, m) x hf hK
def f_X11_fewest (v1 : Int32) (m : ej_M) : Option (Int32 × ej_M) :=
  (f_X11_isShelf v1 m).bind fun q1 =>
  if q1.1 = 0 then
    some ((-1), q1.2)
  else
    (f_X11_rowFault v1 q1.2).bind fun q2 =>
    if 0 ≤ q2.1 then
      if 6 < (q2.2.1 41 4) then
        some ((-5), q2.2)
      else
        (oj_ld 0 q2.2 67 v1).bind fun w3 =>
        if w3 = (q2.2.1 41 4) then
          f_X11_fewest_L52 v1 0 0 q2.2
        else
          some ((-5), q2.2)
    else
      (f_X11_rowFault v1 q2.2).bind fun q4 =>
      some (q4.1, q4.2)
set_option maxHeartbeats 4000000 in
set_option maxRecDepth 100000 in
theorem b_X11_fewest (e : Nat) (hd : 5 ≤ e) (v1 : Int32) (m : ej_M) {x : (Int32 × ej_M)} {res : Option Value × ej_H} {K : (Int32 × ej_M) → Prop} (hf : f_X11_fewest v1 m = some x) (hK : K x) (h0 : ∀ q : (Int32 × ej_M), K q → res = (some (Value.int q.1), (ej_sh, q.2))) : ej_Z cX11_fewest 5 (some .int) RX11 "fewest" (e + 1) 0 [(0, .ref 41), (1, .int v1)] [] (ej_sh, m) res := by
  unfold f_X11_fewest at hf
  refine z_iload_n (pc := 0) (i := 1) (j := 1) dX11_fewest_0 rfl rfl ?_
  obtain ⟨q1, hq1, hf⟩ := Option.bind_eq_some_iff.mp hf
  refine z_oSi (pc := 1) (as := [.int v1]) (rest := []) dX11_fewest_1 lm_RX11_115 mf_X11_isShelf ms_X11_isShelf rfl rfl (Nat.le_of_ble_eq_true rfl) (c_X11_isShelf e (by omega) v1 m hq1) ?_
  refine z_if_ne (pc := 4) (tgt := 9) dX11_fewest_4 (by decide) (fun hc => ?_) (fun hc => ?_)
  · rw [if_neg hc] at hf
    refine z_aload_n (pc := 9) (i := 0) (j := 0) dX11_fewest_9 rfl rfl ?_
    refine z_iload_n (pc := 10) (i := 1) (j := 1) dX11_fewest_10 rfl rfl ?_
    obtain ⟨q2, hq2, hf⟩ := Option.bind_eq_some_iff.mp hf
    refine z_oVi (pc := 11) (as := [.int v1]) (rest := []) dX11_fewest_11 lm_RX11_319 mf_X11_rowFault mi_X11_rowFault mv_X11_rowFault rc_41 rfl rfl (Nat.le_of_ble_eq_true rfl) (c_X11_rowFault e (by omega) v1 q1.2 hq2) ?_
    refine z_if_ge (pc := 14) (tgt := 23) dX11_fewest_14 (by decide) (fun hc => ?_) (fun hc => ?_)
    · rw [if_pos hc] at hf
      refine z_aload_n (pc := 23) (i := 0) (j := 0) dX11_fewest_23 rfl rfl ?_
      refine z_ogetI (pc := 24) dX11_fewest_24 lf_RX11_108 sh_41 rfl rfl ?_
      refine z_bipush (pc := 27) dX11_fewest_27 kb_6 ?_
      refine z_icmp_gt (pc := 29) (tgt := 45) dX11_fewest_29 (by decide) (fun hc => ?_) (fun hc => ?_)
      · rw [if_pos hc] at hf
        refine z_bipush (pc := 45) dX11_fewest_45 kb_n5 ?_
        obtain rfl := Option.some.inj hf
        rw [h0 _ hK]
        exact z_iret dX11_fewest_47 rfl rfl
      · rw [if_neg hc] at hf
        refine z_aload_n (pc := 32) (i := 0) (j := 0) dX11_fewest_32 rfl rfl ?_
        refine z_ogetR (pc := 33) dX11_fewest_33 lf_RX11_87 sh_41 rfl rfl rfl ?_
        refine z_iload_n (pc := 36) (i := 1) (j := 1) dX11_fewest_36 rfl rfl ?_
        obtain ⟨w3, hw3, hf⟩ := Option.bind_eq_some_iff.mp hf
        refine z_oiald (pc := 37) dX11_fewest_37 hw3 ?_
        refine z_aload_n (pc := 38) (i := 0) (j := 0) dX11_fewest_38 rfl rfl ?_
        refine z_ogetI (pc := 39) dX11_fewest_39 lf_RX11_108 sh_41 rfl rfl ?_
        refine z_icmp_eq (pc := 42) (tgt := 48) dX11_fewest_42 (by decide) (fun hc => ?_) (fun hc => ?_)
        · rw [if_pos hc] at hf
          refine z_iconst (pc := 48) dX11_fewest_48 ki_0 ?_
          refine z_istore_n (pc := 49) (i := 2) (ls' := [(2, .int 0), (0, .ref 41), (1, .int v1)]) dX11_fewest_49 rfl (Nat.le_of_ble_eq_true rfl) rfl ?_
          refine z_iconst (pc := 50) dX11_fewest_50 ki_0 ?_
          refine z_istore_n (pc := 51) (i := 3) (ls' := [(3, .int 0), (2, .int 0), (0, .ref 41), (1, .int v1)]) dX11_fewest_51 rfl (Nat.le_of_ble_eq_true rfl) rfl ?_
          exact z_pick [2, 3, 1, 0] rfl (b_X11_fewest_L52 e hd v1 0 0 q2.2 (K := K) hf hK  h0)
        · rw [if_neg hc] at hf
          refine z_bipush (pc := 45) dX11_fewest_45 kb_n5 ?_
          obtain rfl := Option.some.inj hf
          rw [h0 _ hK]
          exact z_iret dX11_fewest_47 rfl rfl
    · rw [if_neg hc] at hf
      refine z_aload_n (pc := 17) (i := 0) (j := 0) dX11_fewest_17 rfl rfl ?_
      refine z_iload_n (pc := 18) (i := 1) (j := 1) dX11_fewest_18 rfl rfl ?_
      obtain ⟨q4, hq4, hf⟩ := Option.bind_eq_some_iff.mp hf
      refine z_oVi (pc := 19) (as := [.int v1]) (rest := []) dX11_fewest_19 lm_RX11_319 mf_X11_rowFault mi_X11_rowFault mv_X11_rowFault rc_41 rfl rfl (Nat.le_of_ble_eq_true rfl) (c_X11_rowFault e (by omega) v1 q2.2 hq4) ?_
      obtain rfl := Option.some.inj hf
      rw [h0 _ hK]
      exact z_iret dX11_fewest_22 rfl rfl
  · rw [if_pos hc] at hf
    refine z_iconst (pc := 7) dX11_fewest_7 ki_n1 ?_
    obtain rfl := Option.some.inj hf
    rw [h0 _ hK]
    exact z_iret dX11_fewest_8 rfl rfl
set_option maxHeartbeats 4000000 in
set_option maxRecDepth 100000 in
theorem c_X11_fewest (d : Nat) (hd : 6 ≤ d) (v1 : Int32) (m : ej_M) {q : (Int32 × ej_M)} (hf : f_X11_fewest v1 m = some q) : ej_Ct yX11_fewest cX11_fewest 5 (some .int) d [.ref 41, .int v1] (ej_sh, m) ((some (Value.int q.1), (ej_sh, q.2)) : Option Value × ej_H) := by
  obtain ⟨e, rfl⟩ : ∃ e, d = e + 1 := ⟨d - 1, by omega⟩
  exact z_met (by decide +kernel) (Nat.le_of_ble_eq_true rfl) (b_X11_fewest e (by omega) v1 m (K := fun z => ((some (Value.int q.1), (ej_sh, q.2)) : Option Value × ej_H) = (some (Value.int z.1), (ej_sh, z.2))) hf rfl (fun _ h => h))
def f_X3_fitBook_L6b (v2 : Int32) (v3 : Int32) (m : ej_M) : Option ((Int32 × ej_M) ⊕ (Unit × ej_M)) :=
  if 8 ≤ v3 then
    some (Sum.inr ((), m))
  else
    (f_X6_length v2 m).bind fun q1 =>
    if q1.1 ≤ v3 then
      some (Sum.inr ((), q1.2))
    else
      (f_X6_valueAt v2 v3 q1.2).bind fun q2 =>
      (f_X10_lay 19 v3 (Int64.toInt32 q2.1) q2.2).bind fun q3 =>
      some (Sum.inl ((v3 + 1), q3.2))
set_option maxHeartbeats 4000000 in
set_option maxRecDepth 100000 in
theorem b_X3_fitBook_L6b (e : Nat) (hd : 1 ≤ e) (v2 : Int32) (v3 : Int32) (m : ej_M) {x : ((Int32 × ej_M) ⊕ (Unit × ej_M))} {res : Option Value × ej_H} {K : ((Int32 × ej_M) ⊕ (Unit × ej_M)) → Prop} (hf : f_X3_fitBook_L6b v2 v3 m = some x) (hK : K x) (h1 : ∀ q : (Int32 × ej_M), K (Sum.inl q) → ej_Z cX3_fitBook 4 none RX3 "fitBook" (e + 1) 6 [(0, .ref 18), (1, .ref 37), (2, .int v2), (3, .int q.1)] [] (ej_sh, q.2) res) (h0 : ∀ q : (Unit × ej_M), K (Sum.inr q) → res = (none, (ej_sh, q.2))) : ej_Z cX3_fitBook 4 none RX3 "fitBook" (e + 1) 6 [(0, .ref 18), (1, .ref 37), (2, .int v2), (3, .int v3)] [] (ej_sh, m) res := by
  unfold f_X3_fitBook_L6b at hf
  refine z_iload_n (pc := 6) (i := 3) (j := 3) dX3_fitBook_6 rfl rfl ?_
  refine z_bipush (pc := 7) dX3_fitBook_7 kb_8 ?_
  refine z_icmp_ge (pc := 9) (tgt := 42) dX3_fitBook_9 (by decide) (fun hc => ?_) (fun hc => ?_)
  · rw [if_pos hc] at hf
    obtain rfl := Option.some.inj hf
    rw [h0 _ hK]
    exact z_ret dX3_fitBook_42 rfl
  · rw [if_neg hc] at hf
    refine z_iload_n (pc := 12) (i := 3) (j := 3) dX3_fitBook_12 rfl rfl ?_
    refine z_aload_n (pc := 13) (i := 1) (j := 1) dX3_fitBook_13 rfl rfl ?_
    refine z_iload_n (pc := 14) (i := 2) (j := 2) dX3_fitBook_14 rfl rfl ?_
    obtain ⟨q1, hq1, hf⟩ := Option.bind_eq_some_iff.mp hf
    refine z_oVi (pc := 15) (as := [.int v2]) (rest := [.int v3]) dX3_fitBook_15 lm_RX3_32 mf_X6_length mi_X6_length mv_X6_length rc_37 rfl rfl (Nat.le_of_ble_eq_true rfl) (c_X6_length e (by omega) v2 m hq1) ?_
    refine z_icmp_ge (pc := 18) (tgt := 42) dX3_fitBook_18 (by decide) (fun hc => ?_) (fun hc => ?_)
    · rw [if_pos hc] at hf
      obtain rfl := Option.some.inj hf
      rw [h0 _ hK]
      exact z_ret dX3_fitBook_42 rfl
    · rw [if_neg hc] at hf
      refine z_aload_n (pc := 21) (i := 0) (j := 0) dX3_fitBook_21 rfl rfl ?_
      refine z_ogetR (pc := 22) dX3_fitBook_22 lf_RX3_9 sh_18 rfl rfl rfl ?_
      refine z_iload_n (pc := 25) (i := 3) (j := 3) dX3_fitBook_25 rfl rfl ?_
      refine z_aload_n (pc := 26) (i := 1) (j := 1) dX3_fitBook_26 rfl rfl ?_
      refine z_iload_n (pc := 27) (i := 2) (j := 2) dX3_fitBook_27 rfl rfl ?_
      refine z_iload_n (pc := 28) (i := 3) (j := 3) dX3_fitBook_28 rfl rfl ?_
      obtain ⟨q2, hq2, hf⟩ := Option.bind_eq_some_iff.mp hf
      refine z_oVl (pc := 29) (as := [.int v2, .int v3]) (rest := [.int v3, .ref 19]) dX3_fitBook_29 lm_RX3_38 mf_X6_valueAt mi_X6_valueAt mv_X6_valueAt rc_37 rfl rfl (Nat.le_of_ble_eq_true rfl) (c_X6_valueAt e (by omega) v2 v3 q1.2 hq2) ?_
      refine z_l2i (pc := 32) dX3_fitBook_32 ?_
      obtain ⟨q3, hq3, hf⟩ := Option.bind_eq_some_iff.mp hf
      refine z_oSv (pc := 33) (as := [.ref 19, .int v3, .int (Int64.toInt32 q2.1)]) (rest := []) dX3_fitBook_33 lm_RX3_25 mf_X10_lay ms_X10_lay rfl rfl (Nat.le_of_ble_eq_true rfl) (c_X10_lay e (by omega) 19 v3 (Int64.toInt32 q2.1) q2.2 hq3) ?_
      refine z_iinc (pc := 36) (j := 3) (ls' := [(3, .int (v3 + 1)), (0, .ref 18), (1, .ref 37), (2, .int v2)]) dX3_fitBook_36 rfl ki_1 (Nat.le_of_ble_eq_true rfl) rfl ?_
      refine z_goto (pc := 39) (tgt := 6) dX3_fitBook_39 (by decide) ?_
      obtain rfl := Option.some.inj hf
      exact z_pick (ls' := [(0, .ref 18), (1, .ref 37), (2, .int v2), (3, .int (v3 + 1))]) [1, 2, 3, 0] rfl (h1 ((v3 + 1), q3.2) hK)
def f_X3_fitBook_L6 (v2 : Int32) (v3 : Int32) (m : ej_M) : Option (Unit × ej_M) := oj_loop (fun q : (Int32 × ej_M) => f_X3_fitBook_L6b v2 q.1 q.2) oj_FU (v3, m)
set_option maxHeartbeats 4000000 in
set_option maxRecDepth 100000 in
theorem b_X3_fitBook_L6 (e : Nat) (hd : 1 ≤ e) (v2 : Int32) (v3 : Int32) (m : ej_M) {x : (Unit × ej_M)} {res : Option Value × ej_H} {K : (Unit × ej_M) → Prop} (hf : f_X3_fitBook_L6 v2 v3 m = some x) (hK : K x) (h0 : ∀ q : (Unit × ej_M), K q → res = (none, (ej_sh, q.2))) : ej_Z cX3_fitBook 4 none RX3 "fitBook" (e + 1) 6 [(0, .ref 18), (1, .ref 37), (2, .int v2), (3, .int v3)] [] (ej_sh, m) res :=
  oj_loop_Z (body := fun q : (Int32 × ej_M) => f_X3_fitBook_L6b v2 q.1 q.2) (P := fun q : (Int32 × ej_M) => ej_Z cX3_fitBook 4 none RX3 "fitBook" (e + 1) 6 [(0, .ref 18), (1, .ref 37), (2, .int v2), (3, .int q.1)] [] (ej_sh, q.2) res) (K := K) (fun s x hb hl hr => b_X3_fitBook_L6b e hd v2  s.1 s.2 (K := fun x => (∀ s' : (Int32 × ej_M), x = Sum.inl s' → ej_Z cX3_fitBook 4 none RX3 "fitBook" (e + 1) 6 [(0, .ref 18), (1, .ref 37), (2, .int v2), (3, .int s'.1)] [] (ej_sh, s'.2) res) ∧ ∀ e, x = Sum.inr e → K e) hb ⟨hl, hr⟩ (fun q hq => hq.1 q rfl) (fun q hq => h0 q (hq.2 _ rfl))) oj_FU (v3, m) x hf hK
def f_X3_fitBook (v2 : Int32) (m : ej_M) : Option (Unit × ej_M) :=
  (f_X3_fitAll m).bind fun q1 =>
  f_X3_fitBook_L6 v2 0 q1.2
set_option maxHeartbeats 4000000 in
set_option maxRecDepth 100000 in
theorem b_X3_fitBook (e : Nat) (hd : 1 ≤ e) (v2 : Int32) (m : ej_M) {x : (Unit × ej_M)} {res : Option Value × ej_H} {K : (Unit × ej_M) → Prop} (hf : f_X3_fitBook v2 m = some x) (hK : K x) (h0 : ∀ q : (Unit × ej_M), K q → res = (none, (ej_sh, q.2))) : ej_Z cX3_fitBook 4 none RX3 "fitBook" (e + 1) 0 [(0, .ref 18), (1, .ref 37), (2, .int v2)] [] (ej_sh, m) res := by
  unfold f_X3_fitBook at hf
  refine z_aload_n (pc := 0) (i := 0) (j := 0) dX3_fitBook_0 rfl rfl ?_
  obtain ⟨q1, hq1, hf⟩ := Option.bind_eq_some_iff.mp hf
  refine z_oVv (pc := 1) (as := []) (rest := []) dX3_fitBook_1 lm_RX3_29 mf_X3_fitAll mi_X3_fitAll mv_X3_fitAll rc_18 rfl rfl (Nat.le_of_ble_eq_true rfl) (c_X3_fitAll e (by omega) m hq1) ?_
  refine z_iconst (pc := 4) dX3_fitBook_4 ki_0 ?_
  refine z_istore_n (pc := 5) (i := 3) (ls' := [(3, .int 0), (0, .ref 18), (1, .ref 37), (2, .int v2)]) dX3_fitBook_5 rfl (Nat.le_of_ble_eq_true rfl) rfl ?_
  exact z_pick [1, 2, 3, 0] rfl (b_X3_fitBook_L6 e hd v2 0 q1.2 (K := K) hf hK  h0)
set_option maxHeartbeats 4000000 in
set_option maxRecDepth 100000 in
theorem c_X3_fitBook (d : Nat) (hd : 2 ≤ d) (v2 : Int32) (m : ej_M) {q : (Unit × ej_M)} (hf : f_X3_fitBook v2 m = some q) : ej_Ct yX3_fitBook cX3_fitBook 4 none d [.ref 18, .ref 37, .int v2] (ej_sh, m) ((none, (ej_sh, q.2)) : Option Value × ej_H) := by
  obtain ⟨e, rfl⟩ : ∃ e, d = e + 1 := ⟨d - 1, by omega⟩
  exact z_met (by decide +kernel) (Nat.le_of_ble_eq_true rfl) (b_X3_fitBook e (by omega) v2 m (K := fun z => ((none, (ej_sh, q.2)) : Option Value × ej_H) = (none, (ej_sh, z.2))) hf rfl (fun _ h => h))
def f_X10_book (v1 : Int32) (v2 : Int32) (m : ej_M) : Option (Int32 × ej_M) :=
  if v2 < (-1) then
    some ((-1), m)
  else
    if v2 < (m.1 6 4) then
      (f_X6_refusesBytes v1 m).bind fun q1 =>
      if q1.1 = 0 then
        (f_X3_fitBook v1 q1.2).bind fun q2 =>
        (f_X4_setOfRow q2.2).bind fun q3 =>
        (f_X3_answer q3.1 v2 q3.2).bind fun q4 =>
        some (q4.1, q4.2)
      else
        some (q1.1, q1.2)
    else
      some ((-1), m)
set_option maxHeartbeats 4000000 in
set_option maxRecDepth 100000 in
theorem b_X10_book (e : Nat) (hd : 126 ≤ e) (v1 : Int32) (v2 : Int32) (m : ej_M) {x : (Int32 × ej_M)} {res : Option Value × ej_H} {K : (Int32 × ej_M) → Prop} (hf : f_X10_book v1 v2 m = some x) (hK : K x) (h0 : ∀ q : (Int32 × ej_M), K q → res = (some (Value.int q.1), (ej_sh, q.2))) : ej_Z cX10_book 4 (some .int) RX10 "book" (e + 1) 0 [(0, .ref 0), (1, .int v1), (2, .int v2)] [] (ej_sh, m) res := by
  unfold f_X10_book at hf
  refine z_iload_n (pc := 0) (i := 2) (j := 2) dX10_book_0 rfl rfl ?_
  refine z_iconst (pc := 1) dX10_book_1 ki_n1 ?_
  refine z_icmp_lt (pc := 2) (tgt := 16) dX10_book_2 (by decide) (fun hc => ?_) (fun hc => ?_)
  · rw [if_pos hc] at hf
    refine z_iconst (pc := 16) dX10_book_16 ki_n1 ?_
    obtain rfl := Option.some.inj hf
    rw [h0 _ hK]
    exact z_iret dX10_book_17 rfl rfl
  · rw [if_neg hc] at hf
    refine z_iload_n (pc := 5) (i := 2) (j := 2) dX10_book_5 rfl rfl ?_
    refine z_aload_n (pc := 6) (i := 0) (j := 0) dX10_book_6 rfl rfl ?_
    refine z_ogetR (pc := 7) dX10_book_7 lf_RX10_21 sh_0 rfl rfl rfl ?_
    refine z_ogetI (pc := 10) dX10_book_10 lf_RX10_136 sh_6 rfl rfl ?_
    refine z_icmp_lt (pc := 13) (tgt := 18) dX10_book_13 (by decide) (fun hc => ?_) (fun hc => ?_)
    · rw [if_pos hc] at hf
      refine z_aload_n (pc := 18) (i := 0) (j := 0) dX10_book_18 rfl rfl ?_
      refine z_ogetR (pc := 19) dX10_book_19 lf_RX10_79 sh_0 rfl rfl rfl ?_
      refine z_iload_n (pc := 22) (i := 1) (j := 1) dX10_book_22 rfl rfl ?_
      obtain ⟨q1, hq1, hf⟩ := Option.bind_eq_some_iff.mp hf
      refine z_oVi (pc := 23) (as := [.int v1]) (rest := []) dX10_book_23 lm_RX10_91 mf_X6_refusesBytes mi_X6_refusesBytes mv_X6_refusesBytes rc_37 rfl rfl (Nat.le_of_ble_eq_true rfl) (c_X6_refusesBytes e (by omega) v1 m hq1) ?_
      refine z_istore_n (pc := 26) (i := 3) (ls' := [(3, .int q1.1), (0, .ref 0), (1, .int v1), (2, .int v2)]) dX10_book_26 rfl (Nat.le_of_ble_eq_true rfl) rfl ?_
      refine z_iload_n (pc := 27) (i := 3) (j := 0) dX10_book_27 rfl rfl ?_
      refine z_if_eq (pc := 28) (tgt := 33) dX10_book_28 (by decide) (fun hc => ?_) (fun hc => ?_)
      · rw [if_pos hc] at hf
        refine z_aload_n (pc := 33) (i := 0) (j := 1) dX10_book_33 rfl rfl ?_
        refine z_ogetR (pc := 34) dX10_book_34 lf_RX10_44 sh_0 rfl rfl rfl ?_
        refine z_aload_n (pc := 37) (i := 0) (j := 1) dX10_book_37 rfl rfl ?_
        refine z_ogetR (pc := 38) dX10_book_38 lf_RX10_79 sh_0 rfl rfl rfl ?_
        refine z_iload_n (pc := 41) (i := 1) (j := 2) dX10_book_41 rfl rfl ?_
        obtain ⟨q2, hq2, hf⟩ := Option.bind_eq_some_iff.mp hf
        refine z_oVv (pc := 42) (as := [.ref 37, .int v1]) (rest := []) dX10_book_42 lm_RX10_233 mf_X3_fitBook mi_X3_fitBook mv_X3_fitBook rc_18 rfl rfl (Nat.le_of_ble_eq_true rfl) (c_X3_fitBook e (by omega) v1 q1.2 hq2) ?_
        refine z_aload_n (pc := 45) (i := 0) (j := 1) dX10_book_45 rfl rfl ?_
        refine z_ogetR (pc := 46) dX10_book_46 lf_RX10_44 sh_0 rfl rfl rfl ?_
        refine z_aload_n (pc := 49) (i := 0) (j := 1) dX10_book_49 rfl rfl ?_
        refine z_ogetR (pc := 50) dX10_book_50 lf_RX10_21 sh_0 rfl rfl rfl ?_
        obtain ⟨q3, hq3, hf⟩ := Option.bind_eq_some_iff.mp hf
        refine z_oVi (pc := 53) (as := []) (rest := [.ref 18]) dX10_book_53 lm_RX10_237 mf_X4_setOfRow mi_X4_setOfRow mv_X4_setOfRow rc_6 rfl rfl (Nat.le_of_ble_eq_true rfl) (c_X4_setOfRow e (by omega) q2.2 hq3) ?_
        refine z_iload_n (pc := 56) (i := 2) (j := 3) dX10_book_56 rfl rfl ?_
        obtain ⟨q4, hq4, hf⟩ := Option.bind_eq_some_iff.mp hf
        refine z_oVi (pc := 57) (as := [.int q3.1, .int v2]) (rest := []) dX10_book_57 lm_RX10_194 mf_X3_answer mi_X3_answer mv_X3_answer rc_18 rfl rfl (Nat.le_of_ble_eq_true rfl) (c_X3_answer e (by omega) q3.1 v2 q3.2 hq4) ?_
        obtain rfl := Option.some.inj hf
        rw [h0 _ hK]
        exact z_iret dX10_book_60 rfl rfl
      · rw [if_neg hc] at hf
        refine z_iload_n (pc := 31) (i := 3) (j := 0) dX10_book_31 rfl rfl ?_
        obtain rfl := Option.some.inj hf
        rw [h0 _ hK]
        exact z_iret dX10_book_32 rfl rfl
    · rw [if_neg hc] at hf
      refine z_iconst (pc := 16) dX10_book_16 ki_n1 ?_
      obtain rfl := Option.some.inj hf
      rw [h0 _ hK]
      exact z_iret dX10_book_17 rfl rfl
set_option maxHeartbeats 4000000 in
set_option maxRecDepth 100000 in
theorem c_X10_book (d : Nat) (hd : 127 ≤ d) (v1 : Int32) (v2 : Int32) (m : ej_M) {q : (Int32 × ej_M)} (hf : f_X10_book v1 v2 m = some q) : ej_Ct yX10_book cX10_book 4 (some .int) d [.ref 0, .int v1, .int v2] (ej_sh, m) ((some (Value.int q.1), (ej_sh, q.2)) : Option Value × ej_H) := by
  obtain ⟨e, rfl⟩ : ∃ e, d = e + 1 := ⟨d - 1, by omega⟩
  exact z_met (by decide +kernel) (Nat.le_of_ble_eq_true rfl) (b_X10_book e (by omega) v1 v2 m (K := fun z => ((some (Value.int q.1), (ej_sh, q.2)) : Option Value × ej_H) = (some (Value.int z.1), (ej_sh, z.2))) hf rfl (fun _ h => h))
def f_X11_book (v1 : Int32) (v2 : Int32) (m : ej_M) : Option (Int32 × ej_M) :=
  (f_X11_isShelf v1 m).bind fun q1 =>
  if q1.1 = 0 then
    some ((-1), q1.2)
  else
    (f_X11_in v2 (-1) ((q1.2.1 41 4) - 1) q1.2).bind fun q2 =>
    if q2.1 = 0 then
      some ((-1), q2.2)
    else
      (f_X11_rowFault v1 q2.2).bind fun q3 =>
      if 0 ≤ q3.1 then
        (f_X11_standing q3.2).bind fun q4 =>
        (f_X11_orders q4.1 v1 q4.2).bind fun q5 =>
        if 0 ≤ v2 then
          if q5.1 = 0 then
            some ((-2), q5.2)
          else
            (oj_ld 0 q5.2 57 v2).bind fun w6 =>
            some (w6, q5.2)
        else
          some (q5.1, q5.2)
      else
        (f_X11_rowFault v1 q3.2).bind fun q7 =>
        some (q7.1, q7.2)
set_option maxHeartbeats 4000000 in
set_option maxRecDepth 100000 in
theorem b_X11_book (e : Nat) (hd : 126 ≤ e) (v1 : Int32) (v2 : Int32) (m : ej_M) {x : (Int32 × ej_M)} {res : Option Value × ej_H} {K : (Int32 × ej_M) → Prop} (hf : f_X11_book v1 v2 m = some x) (hK : K x) (h0 : ∀ q : (Int32 × ej_M), K q → res = (some (Value.int q.1), (ej_sh, q.2))) : ej_Z cX11_book 4 (some .int) RX11 "book" (e + 1) 0 [(0, .ref 41), (1, .int v1), (2, .int v2)] [] (ej_sh, m) res := by
  unfold f_X11_book at hf
  refine z_iload_n (pc := 0) (i := 1) (j := 1) dX11_book_0 rfl rfl ?_
  obtain ⟨q1, hq1, hf⟩ := Option.bind_eq_some_iff.mp hf
  refine z_oSi (pc := 1) (as := [.int v1]) (rest := []) dX11_book_1 lm_RX11_115 mf_X11_isShelf ms_X11_isShelf rfl rfl (Nat.le_of_ble_eq_true rfl) (c_X11_isShelf e (by omega) v1 m hq1) ?_
  refine z_if_eq (pc := 4) (tgt := 21) dX11_book_4 (by decide) (fun hc => ?_) (fun hc => ?_)
  · rw [if_pos hc] at hf
    refine z_iconst (pc := 21) dX11_book_21 ki_n1 ?_
    obtain rfl := Option.some.inj hf
    rw [h0 _ hK]
    exact z_iret dX11_book_22 rfl rfl
  · rw [if_neg hc] at hf
    refine z_iload_n (pc := 7) (i := 2) (j := 2) dX11_book_7 rfl rfl ?_
    refine z_iconst (pc := 8) dX11_book_8 ki_n1 ?_
    refine z_aload_n (pc := 9) (i := 0) (j := 0) dX11_book_9 rfl rfl ?_
    refine z_ogetI (pc := 10) dX11_book_10 lf_RX11_108 sh_41 rfl rfl ?_
    refine z_iconst (pc := 13) dX11_book_13 ki_1 ?_
    refine z_isub (pc := 14) dX11_book_14 ?_
    obtain ⟨q2, hq2, hf⟩ := Option.bind_eq_some_iff.mp hf
    refine z_oSi (pc := 15) (as := [.int v2, .int (-1), .int ((q1.2.1 41 4) - 1)]) (rest := []) dX11_book_15 lm_RX11_104 mf_X11_in ms_X11_in rfl rfl (Nat.le_of_ble_eq_true rfl) (c_X11_in e (by omega) v2 (-1) ((q1.2.1 41 4) - 1) q1.2 hq2) ?_
    refine z_if_ne (pc := 18) (tgt := 23) dX11_book_18 (by decide) (fun hc => ?_) (fun hc => ?_)
    · rw [if_neg hc] at hf
      refine z_aload_n (pc := 23) (i := 0) (j := 0) dX11_book_23 rfl rfl ?_
      refine z_iload_n (pc := 24) (i := 1) (j := 1) dX11_book_24 rfl rfl ?_
      obtain ⟨q3, hq3, hf⟩ := Option.bind_eq_some_iff.mp hf
      refine z_oVi (pc := 25) (as := [.int v1]) (rest := []) dX11_book_25 lm_RX11_319 mf_X11_rowFault mi_X11_rowFault mv_X11_rowFault rc_41 rfl rfl (Nat.le_of_ble_eq_true rfl) (c_X11_rowFault e (by omega) v1 q2.2 hq3) ?_
      refine z_if_ge (pc := 28) (tgt := 37) dX11_book_28 (by decide) (fun hc => ?_) (fun hc => ?_)
      · rw [if_pos hc] at hf
        refine z_aload_n (pc := 37) (i := 0) (j := 0) dX11_book_37 rfl rfl ?_
        refine z_aload_n (pc := 38) (i := 0) (j := 0) dX11_book_38 rfl rfl ?_
        obtain ⟨q4, hq4, hf⟩ := Option.bind_eq_some_iff.mp hf
        refine z_oVi (pc := 39) (as := []) (rest := [.ref 41]) dX11_book_39 lm_RX11_297 mf_X11_standing mi_X11_standing mv_X11_standing rc_41 rfl rfl (Nat.le_of_ble_eq_true rfl) (c_X11_standing e (by omega) q3.2 hq4) ?_
        refine z_iload_n (pc := 42) (i := 1) (j := 1) dX11_book_42 rfl rfl ?_
        obtain ⟨q5, hq5, hf⟩ := Option.bind_eq_some_iff.mp hf
        refine z_oVi (pc := 43) (as := [.int q4.1, .int v1]) (rest := []) dX11_book_43 lm_RX11_279 mf_X11_orders mi_X11_orders mv_X11_orders rc_41 rfl rfl (Nat.le_of_ble_eq_true rfl) (c_X11_orders e (by omega) q4.1 v1 q4.2 hq5) ?_
        refine z_istore_n (pc := 46) (i := 3) (ls' := [(3, .int q5.1), (0, .ref 41), (1, .int v1), (2, .int v2)]) dX11_book_46 rfl (Nat.le_of_ble_eq_true rfl) rfl ?_
        refine z_iload_n (pc := 47) (i := 2) (j := 3) dX11_book_47 rfl rfl ?_
        refine z_if_ge (pc := 48) (tgt := 55) dX11_book_48 (by decide) (fun hc => ?_) (fun hc => ?_)
        · rw [if_pos hc] at hf
          refine z_iload_n (pc := 55) (i := 3) (j := 0) dX11_book_55 rfl rfl ?_
          refine z_if_ne (pc := 56) (tgt := 64) dX11_book_56 (by decide) (fun hc => ?_) (fun hc => ?_)
          · rw [if_neg hc] at hf
            refine z_aload_n (pc := 64) (i := 0) (j := 1) dX11_book_64 rfl rfl ?_
            refine z_ogetR (pc := 65) dX11_book_65 lf_RX11_57 sh_41 rfl rfl rfl ?_
            refine z_iload_n (pc := 68) (i := 2) (j := 3) dX11_book_68 rfl rfl ?_
            obtain ⟨w6, hw6, hf⟩ := Option.bind_eq_some_iff.mp hf
            refine z_oiald (pc := 69) dX11_book_69 hw6 ?_
            obtain rfl := Option.some.inj hf
            rw [h0 _ hK]
            exact z_iret dX11_book_70 rfl rfl
          · rw [if_pos hc] at hf
            refine z_bipush (pc := 59) dX11_book_59 kb_n2 ?_
            refine z_goto (pc := 61) (tgt := 70) dX11_book_61 (by decide) ?_
            obtain rfl := Option.some.inj hf
            rw [h0 _ hK]
            exact z_iret dX11_book_70 rfl rfl
        · rw [if_neg hc] at hf
          refine z_iload_n (pc := 51) (i := 3) (j := 0) dX11_book_51 rfl rfl ?_
          refine z_goto (pc := 52) (tgt := 70) dX11_book_52 (by decide) ?_
          obtain rfl := Option.some.inj hf
          rw [h0 _ hK]
          exact z_iret dX11_book_70 rfl rfl
      · rw [if_neg hc] at hf
        refine z_aload_n (pc := 31) (i := 0) (j := 0) dX11_book_31 rfl rfl ?_
        refine z_iload_n (pc := 32) (i := 1) (j := 1) dX11_book_32 rfl rfl ?_
        obtain ⟨q7, hq7, hf⟩ := Option.bind_eq_some_iff.mp hf
        refine z_oVi (pc := 33) (as := [.int v1]) (rest := []) dX11_book_33 lm_RX11_319 mf_X11_rowFault mi_X11_rowFault mv_X11_rowFault rc_41 rfl rfl (Nat.le_of_ble_eq_true rfl) (c_X11_rowFault e (by omega) v1 q3.2 hq7) ?_
        obtain rfl := Option.some.inj hf
        rw [h0 _ hK]
        exact z_iret dX11_book_36 rfl rfl
    · rw [if_pos hc] at hf
      refine z_iconst (pc := 21) dX11_book_21 ki_n1 ?_
      obtain rfl := Option.some.inj hf
      rw [h0 _ hK]
      exact z_iret dX11_book_22 rfl rfl
set_option maxHeartbeats 4000000 in
set_option maxRecDepth 100000 in
theorem c_X11_book (d : Nat) (hd : 127 ≤ d) (v1 : Int32) (v2 : Int32) (m : ej_M) {q : (Int32 × ej_M)} (hf : f_X11_book v1 v2 m = some q) : ej_Ct yX11_book cX11_book 4 (some .int) d [.ref 41, .int v1, .int v2] (ej_sh, m) ((some (Value.int q.1), (ej_sh, q.2)) : Option Value × ej_H) := by
  obtain ⟨e, rfl⟩ : ∃ e, d = e + 1 := ⟨d - 1, by omega⟩
  exact z_met (by decide +kernel) (Nat.le_of_ble_eq_true rfl) (b_X11_book e (by omega) v1 v2 m (K := fun z => ((some (Value.int q.1), (ej_sh, q.2)) : Option Value × ej_H) = (some (Value.int z.1), (ej_sh, z.2))) hf rfl (fun _ h => h))
def f_X8_lawfulMixings_B120 (v2 : Int32) (v3 : Int32) (v4 : Int32) (v5 : Int32) (v6 : Int32) (v7 : Int32) (s0 : Int32) (m : ej_M) : Option ((Int32 × Int32 × Int32 × ej_M) ⊕ (Int32 × ej_M)) :=
  if s0 = 0 then
    some (Sum.inl (v4, v5, (v7 + 1), m))
  else
    some (Sum.inl ((v4 + 1), v5, (v7 + 1), m))
set_option maxHeartbeats 4000000 in
set_option maxRecDepth 100000 in
theorem b_X8_lawfulMixings_B120 (e : Nat) (hd : 4 ≤ e) (v2 : Int32) (v3 : Int32) (v4 : Int32) (v5 : Int32) (v6 : Int32) (v7 : Int32) (s0 : Int32) (m : ej_M) {x : ((Int32 × Int32 × Int32 × ej_M) ⊕ (Int32 × ej_M))} {res : Option Value × ej_H} {K : ((Int32 × Int32 × Int32 × ej_M) ⊕ (Int32 × ej_M)) → Prop} (hf : f_X8_lawfulMixings_B120 v2 v3 v4 v5 v6 v7 s0 m = some x) (hK : K x) (h1 : ∀ q : (Int32 × Int32 × Int32 × ej_M), K (Sum.inl q) → ej_Z cX8_lawfulMixings 9 (some .int) RX8 "lawfulMixings" (e + 1) 18 [(0, .ref 15), (2, .int v2), (3, .int v3), (4, .int q.1), (5, .int q.2.1), (6, .int v6), (7, .int q.2.2.1)] [] (ej_sh, q.2.2.2) res) (h0 : ∀ q : (Int32 × ej_M), K (Sum.inr q) → res = (some (Value.int q.1), (ej_sh, q.2))) : ej_Z cX8_lawfulMixings 9 (some .int) RX8 "lawfulMixings" (e + 1) 120 [(0, .ref 15), (2, .int v2), (3, .int v3), (4, .int v4), (5, .int v5), (6, .int v6), (7, .int v7)] [.int s0] (ej_sh, m) res := by
  unfold f_X8_lawfulMixings_B120 at hf
  refine z_istore (pc := 120) (i := 8) (ls' := [(8, .int s0), (0, .ref 15), (2, .int v2), (3, .int v3), (4, .int v4), (5, .int v5), (6, .int v6), (7, .int v7)]) dX8_lawfulMixings_120 (Nat.le_of_ble_eq_true rfl) rfl ?_
  refine z_iload (pc := 122) (i := 8) (j := 0) dX8_lawfulMixings_122 rfl ?_
  refine z_if_eq (pc := 124) (tgt := 130) dX8_lawfulMixings_124 (by decide) (fun hc => ?_) (fun hc => ?_)
  · rw [if_pos hc] at hf
    refine z_iinc (pc := 130) (j := 7) (ls' := [(7, .int (v7 + 1)), (8, .int s0), (0, .ref 15), (2, .int v2), (3, .int v3), (4, .int v4), (5, .int v5), (6, .int v6)]) dX8_lawfulMixings_130 rfl ki_1 (Nat.le_of_ble_eq_true rfl) rfl ?_
    refine z_goto (pc := 133) (tgt := 18) dX8_lawfulMixings_133 (by decide) ?_
    obtain rfl := Option.some.inj hf
    exact z_pick (ls' := [(0, .ref 15), (2, .int v2), (3, .int v3), (4, .int v4), (5, .int v5), (6, .int v6), (7, .int (v7 + 1))]) [2, 3, 4, 5, 6, 7, 0] rfl (h1 (v4, v5, (v7 + 1), m) hK)
  · rw [if_neg hc] at hf
    refine z_iinc (pc := 127) (j := 4) (ls' := [(4, .int (v4 + 1)), (8, .int s0), (0, .ref 15), (2, .int v2), (3, .int v3), (5, .int v5), (6, .int v6), (7, .int v7)]) dX8_lawfulMixings_127 rfl ki_1 (Nat.le_of_ble_eq_true rfl) rfl ?_
    refine z_iinc (pc := 130) (j := 7) (ls' := [(7, .int (v7 + 1)), (4, .int (v4 + 1)), (8, .int s0), (0, .ref 15), (2, .int v2), (3, .int v3), (5, .int v5), (6, .int v6)]) dX8_lawfulMixings_130 rfl ki_1 (Nat.le_of_ble_eq_true rfl) rfl ?_
    refine z_goto (pc := 133) (tgt := 18) dX8_lawfulMixings_133 (by decide) ?_
    obtain rfl := Option.some.inj hf
    exact z_pick (ls' := [(0, .ref 15), (2, .int v2), (3, .int v3), (4, .int (v4 + 1)), (5, .int v5), (6, .int v6), (7, .int (v7 + 1))]) [3, 4, 5, 1, 6, 7, 0] rfl (h1 ((v4 + 1), v5, (v7 + 1), m) hK)
def f_X8_lawfulMixings_L34b (v2 : Int32) (v3 : Int32) (v4 : Int32) (v6 : Int32) (v7 : Int32) (v5 : Int32) (v8 : Int32) (m : ej_M) : Option ((Int32 × Int32 × ej_M) ⊕ ((Int32 × Int32 × Int32 × ej_M) ⊕ (Int32 × ej_M))) :=
  if v8 < 1 then
    if v3 = (-1) then
      (f_X4_isLawful 16 v6 m).bind fun q3 =>
      (f_X8_lawfulMixings_B120 v2 v3 v4 v5 v6 v7 q3.1 q3.2).map fun y => (Sum.inr y)
    else
      (f_X4_placeIn 16 v6 v3 m).bind fun q1 =>
      (f_X4_isLawfulAt 16 v6 q1.1 q1.2).bind fun q2 =>
      (f_X8_lawfulMixings_B120 v2 v3 v4 v5 v6 v7 q2.1 q2.2).map fun y => (Sum.inr y)
  else
    (oj_rm ((Int32.toUInt32 ((v5 * 1103515245) + 12345) >>> (Int32.toUInt32 8 &&& Int32.toUInt32 31)).toInt32) (v8 + 1)).bind fun w4 =>
    (f_X10_exchange 16 v8 w4 m).bind fun q5 =>
    some (Sum.inl (((v5 * 1103515245) + 12345), (v8 + (-1)), q5.2))
set_option maxHeartbeats 4000000 in
set_option maxRecDepth 100000 in
theorem b_X8_lawfulMixings_L34b (e : Nat) (hd : 4 ≤ e) (v2 : Int32) (v3 : Int32) (v4 : Int32) (v6 : Int32) (v7 : Int32) (v5 : Int32) (v8 : Int32) (m : ej_M) {x : ((Int32 × Int32 × ej_M) ⊕ ((Int32 × Int32 × Int32 × ej_M) ⊕ (Int32 × ej_M)))} {res : Option Value × ej_H} {K : ((Int32 × Int32 × ej_M) ⊕ ((Int32 × Int32 × Int32 × ej_M) ⊕ (Int32 × ej_M))) → Prop} (hf : f_X8_lawfulMixings_L34b v2 v3 v4 v6 v7 v5 v8 m = some x) (hK : K x) (h1 : ∀ q : (Int32 × Int32 × ej_M), K (Sum.inl q) → ej_Z cX8_lawfulMixings 9 (some .int) RX8 "lawfulMixings" (e + 1) 34 [(0, .ref 15), (2, .int v2), (3, .int v3), (4, .int v4), (5, .int q.1), (6, .int v6), (7, .int v7), (8, .int q.2.1)] [] (ej_sh, q.2.2) res) (h2 : ∀ q : (Int32 × Int32 × Int32 × ej_M), K (Sum.inr (Sum.inl q)) → ej_Z cX8_lawfulMixings 9 (some .int) RX8 "lawfulMixings" (e + 1) 18 [(0, .ref 15), (2, .int v2), (3, .int v3), (4, .int q.1), (5, .int q.2.1), (6, .int v6), (7, .int q.2.2.1)] [] (ej_sh, q.2.2.2) res) (h0 : ∀ q : (Int32 × ej_M), K (Sum.inr (Sum.inr q)) → res = (some (Value.int q.1), (ej_sh, q.2))) : ej_Z cX8_lawfulMixings 9 (some .int) RX8 "lawfulMixings" (e + 1) 34 [(0, .ref 15), (2, .int v2), (3, .int v3), (4, .int v4), (5, .int v5), (6, .int v6), (7, .int v7), (8, .int v8)] [] (ej_sh, m) res := by
  unfold f_X8_lawfulMixings_L34b at hf
  refine z_iload (pc := 34) (i := 8) (j := 7) dX8_lawfulMixings_34 rfl ?_
  refine z_iconst (pc := 36) dX8_lawfulMixings_36 ki_1 ?_
  refine z_icmp_lt (pc := 37) (tgt := 76) dX8_lawfulMixings_37 (by decide) (fun hc => ?_) (fun hc => ?_)
  · rw [if_pos hc] at hf
    refine z_iload_n (pc := 76) (i := 3) (j := 2) dX8_lawfulMixings_76 rfl rfl ?_
    refine z_iconst (pc := 77) dX8_lawfulMixings_77 ki_n1 ?_
    refine z_icmp_ne (pc := 78) (tgt := 97) dX8_lawfulMixings_78 (by decide) (fun hc => ?_) (fun hc => ?_)
    · rw [if_neg hc] at hf
      refine z_aload_n (pc := 97) (i := 0) (j := 0) dX8_lawfulMixings_97 rfl rfl ?_
      refine z_ogetR (pc := 98) dX8_lawfulMixings_98 lf_RX8_18 sh_15 rfl rfl rfl ?_
      refine z_aload_n (pc := 101) (i := 0) (j := 0) dX8_lawfulMixings_101 rfl rfl ?_
      refine z_ogetR (pc := 102) dX8_lawfulMixings_102 lf_RX8_9 sh_15 rfl rfl rfl ?_
      refine z_iload (pc := 105) (i := 6) (j := 5) dX8_lawfulMixings_105 rfl ?_
      refine z_aload_n (pc := 107) (i := 0) (j := 0) dX8_lawfulMixings_107 rfl rfl ?_
      refine z_ogetR (pc := 108) dX8_lawfulMixings_108 lf_RX8_9 sh_15 rfl rfl rfl ?_
      refine z_iload (pc := 111) (i := 6) (j := 5) dX8_lawfulMixings_111 rfl ?_
      refine z_iload_n (pc := 113) (i := 3) (j := 2) dX8_lawfulMixings_113 rfl rfl ?_
      obtain ⟨q1, hq1, hf⟩ := Option.bind_eq_some_iff.mp hf
      refine z_oSi (pc := 114) (as := [.ref 16, .int v6, .int v3]) (rest := [.int v6, .ref 16, .ref 6]) dX8_lawfulMixings_114 lm_RX8_88 mf_X4_placeIn ms_X4_placeIn rfl rfl (Nat.le_of_ble_eq_true rfl) (c_X4_placeIn e (by omega) 16 v6 v3 m hq1) ?_
      obtain ⟨q2, hq2, hf⟩ := Option.bind_eq_some_iff.mp hf
      refine z_oVi (pc := 117) (as := [.ref 16, .int v6, .int q1.1]) (rest := []) dX8_lawfulMixings_117 lm_RX8_92 mf_X4_isLawfulAt mi_X4_isLawfulAt mv_X4_isLawfulAt rc_6 rfl rfl (Nat.le_of_ble_eq_true rfl) (c_X4_isLawfulAt e (by omega) 16 v6 q1.1 q1.2 hq2) ?_
      obtain ⟨y, hy, hxy⟩ := Option.map_eq_some_iff.mp hf
      subst hxy
      exact z_pick [0, 1, 2, 3, 4, 5, 6] rfl (b_X8_lawfulMixings_B120 e hd v2 v3 v4 v5 v6 v7 q2.1 q2.2 (K := fun y => K (Sum.inr y)) hy hK h2 h0)
    · rw [if_pos hc] at hf
      refine z_aload_n (pc := 81) (i := 0) (j := 0) dX8_lawfulMixings_81 rfl rfl ?_
      refine z_ogetR (pc := 82) dX8_lawfulMixings_82 lf_RX8_18 sh_15 rfl rfl rfl ?_
      refine z_aload_n (pc := 85) (i := 0) (j := 0) dX8_lawfulMixings_85 rfl rfl ?_
      refine z_ogetR (pc := 86) dX8_lawfulMixings_86 lf_RX8_9 sh_15 rfl rfl rfl ?_
      refine z_iload (pc := 89) (i := 6) (j := 5) dX8_lawfulMixings_89 rfl ?_
      obtain ⟨q3, hq3, hf⟩ := Option.bind_eq_some_iff.mp hf
      refine z_oVi (pc := 91) (as := [.ref 16, .int v6]) (rest := []) dX8_lawfulMixings_91 lm_RX8_42 mf_X4_isLawful mi_X4_isLawful mv_X4_isLawful rc_6 rfl rfl (Nat.le_of_ble_eq_true rfl) (c_X4_isLawful e (by omega) 16 v6 m hq3) ?_
      refine z_goto (pc := 94) (tgt := 120) dX8_lawfulMixings_94 (by decide) ?_
      obtain ⟨y, hy, hxy⟩ := Option.map_eq_some_iff.mp hf
      subst hxy
      exact z_pick [0, 1, 2, 3, 4, 5, 6] rfl (b_X8_lawfulMixings_B120 e hd v2 v3 v4 v5 v6 v7 q3.1 q3.2 (K := fun y => K (Sum.inr y)) hy hK h2 h0)
  · rw [if_neg hc] at hf
    refine z_iload (pc := 40) (i := 5) (j := 4) dX8_lawfulMixings_40 rfl ?_
    refine z_ldc (pc := 42) dX8_lawfulMixings_42 lc_RX8_87 ?_
    refine z_imul (pc := 44) dX8_lawfulMixings_44 ?_
    refine z_sipush (pc := 45) dX8_lawfulMixings_45 ks_12345 ?_
    refine z_iadd (pc := 48) dX8_lawfulMixings_48 ?_
    refine z_istore (pc := 49) (i := 5) (ls' := [(5, .int ((v5 * 1103515245) + 12345)), (0, .ref 15), (2, .int v2), (3, .int v3), (4, .int v4), (6, .int v6), (7, .int v7), (8, .int v8)]) dX8_lawfulMixings_49 (Nat.le_of_ble_eq_true rfl) rfl ?_
    refine z_aload_n (pc := 51) (i := 0) (j := 1) dX8_lawfulMixings_51 rfl rfl ?_
    refine z_ogetR (pc := 52) dX8_lawfulMixings_52 lf_RX8_9 sh_15 rfl rfl rfl ?_
    refine z_iload (pc := 55) (i := 8) (j := 7) dX8_lawfulMixings_55 rfl ?_
    refine z_iload (pc := 57) (i := 5) (j := 0) dX8_lawfulMixings_57 rfl ?_
    refine z_bipush (pc := 59) dX8_lawfulMixings_59 kb_8 ?_
    refine z_iushr (pc := 61) dX8_lawfulMixings_61 ?_
    refine z_iload (pc := 62) (i := 8) (j := 7) dX8_lawfulMixings_62 rfl ?_
    refine z_iconst (pc := 64) dX8_lawfulMixings_64 ki_1 ?_
    refine z_iadd (pc := 65) dX8_lawfulMixings_65 ?_
    obtain ⟨w4, hw4, hf⟩ := Option.bind_eq_some_iff.mp hf
    refine z_orem (pc := 66) dX8_lawfulMixings_66 hw4 ?_
    obtain ⟨q5, hq5, hf⟩ := Option.bind_eq_some_iff.mp hf
    refine z_oSv (pc := 67) (as := [.ref 16, .int v8, .int w4]) (rest := []) dX8_lawfulMixings_67 lm_RX8_53 mf_X10_exchange ms_X10_exchange rfl rfl (Nat.le_of_ble_eq_true rfl) (c_X10_exchange e (by omega) 16 v8 w4 m hq5) ?_
    refine z_iinc (pc := 70) (j := 7) (ls' := [(8, .int (v8 + (-1))), (5, .int ((v5 * 1103515245) + 12345)), (0, .ref 15), (2, .int v2), (3, .int v3), (4, .int v4), (6, .int v6), (7, .int v7)]) dX8_lawfulMixings_70 rfl ki_n1 (Nat.le_of_ble_eq_true rfl) rfl ?_
    refine z_goto (pc := 73) (tgt := 34) dX8_lawfulMixings_73 (by decide) ?_
    obtain rfl := Option.some.inj hf
    exact z_pick (ls' := [(0, .ref 15), (2, .int v2), (3, .int v3), (4, .int v4), (5, .int ((v5 * 1103515245) + 12345)), (6, .int v6), (7, .int v7), (8, .int (v8 + (-1)))]) [2, 3, 4, 5, 1, 6, 7, 0] rfl (h1 (((v5 * 1103515245) + 12345), (v8 + (-1)), q5.2) hK)
def f_X8_lawfulMixings_L34 (v2 : Int32) (v3 : Int32) (v4 : Int32) (v6 : Int32) (v7 : Int32) (v5 : Int32) (v8 : Int32) (m : ej_M) : Option ((Int32 × Int32 × Int32 × ej_M) ⊕ (Int32 × ej_M)) := oj_loop (fun q : (Int32 × Int32 × ej_M) => f_X8_lawfulMixings_L34b v2 v3 v4 v6 v7 q.1 q.2.1 q.2.2) oj_FU (v5, v8, m)
set_option maxHeartbeats 4000000 in
set_option maxRecDepth 100000 in
theorem b_X8_lawfulMixings_L34 (e : Nat) (hd : 4 ≤ e) (v2 : Int32) (v3 : Int32) (v4 : Int32) (v6 : Int32) (v7 : Int32) (v5 : Int32) (v8 : Int32) (m : ej_M) {x : ((Int32 × Int32 × Int32 × ej_M) ⊕ (Int32 × ej_M))} {res : Option Value × ej_H} {K : ((Int32 × Int32 × Int32 × ej_M) ⊕ (Int32 × ej_M)) → Prop} (hf : f_X8_lawfulMixings_L34 v2 v3 v4 v6 v7 v5 v8 m = some x) (hK : K x) (h1 : ∀ q : (Int32 × Int32 × Int32 × ej_M), K (Sum.inl q) → ej_Z cX8_lawfulMixings 9 (some .int) RX8 "lawfulMixings" (e + 1) 18 [(0, .ref 15), (2, .int v2), (3, .int v3), (4, .int q.1), (5, .int q.2.1), (6, .int v6), (7, .int q.2.2.1)] [] (ej_sh, q.2.2.2) res) (h0 : ∀ q : (Int32 × ej_M), K (Sum.inr q) → res = (some (Value.int q.1), (ej_sh, q.2))) : ej_Z cX8_lawfulMixings 9 (some .int) RX8 "lawfulMixings" (e + 1) 34 [(0, .ref 15), (2, .int v2), (3, .int v3), (4, .int v4), (5, .int v5), (6, .int v6), (7, .int v7), (8, .int v8)] [] (ej_sh, m) res :=
  oj_loop_Z (body := fun q : (Int32 × Int32 × ej_M) => f_X8_lawfulMixings_L34b v2 v3 v4 v6 v7 q.1 q.2.1 q.2.2) (P := fun q : (Int32 × Int32 × ej_M) => ej_Z cX8_lawfulMixings 9 (some .int) RX8 "lawfulMixings" (e + 1) 34 [(0, .ref 15), (2, .int v2), (3, .int v3), (4, .int v4), (5, .int q.1), (6, .int v6), (7, .int v7), (8, .int q.2.1)] [] (ej_sh, q.2.2) res) (K := K) (fun s x hb hl hr => b_X8_lawfulMixings_L34b e hd v2 v3 v4 v6 v7  s.1 s.2.1 s.2.2 (K := fun x => (∀ s' : (Int32 × Int32 × ej_M), x = Sum.inl s' → ej_Z cX8_lawfulMixings 9 (some .int) RX8 "lawfulMixings" (e + 1) 34 [(0, .ref 15), (2, .int v2), (3, .int v3), (4, .int v4), (5, .int s'.1), (6, .int v6), (7, .int v7), (8, .int s'.2.1)] [] (ej_sh, s'.2.2) res) ∧ ∀ e, x = Sum.inr e → K e) hb ⟨hl, hr⟩ (fun q hq => hq.1 q rfl) (fun q hq => h1 q (hq.2 _ rfl)) (fun q hq => h0 q (hq.2 _ rfl))) oj_FU (v5, v8, m) x hf hK
def f_X8_lawfulMixings_L18b (v2 : Int32) (v3 : Int32) (v6 : Int32) (v4 : Int32) (v5 : Int32) (v7 : Int32) (m : ej_M) : Option ((Int32 × Int32 × Int32 × ej_M) ⊕ (Int32 × ej_M)) :=
  if v2 ≤ v7 then
    some (Sum.inr (v4, m))
  else
    (f_X8_beginAnew m).bind fun q1 =>
    f_X8_lawfulMixings_L34 v2 v3 v4 v6 v7 v5 (v6 - 1) q1.2
set_option maxHeartbeats 4000000 in
set_option maxRecDepth 100000 in
theorem b_X8_lawfulMixings_L18b (e : Nat) (hd : 4 ≤ e) (v2 : Int32) (v3 : Int32) (v6 : Int32) (v4 : Int32) (v5 : Int32) (v7 : Int32) (m : ej_M) {x : ((Int32 × Int32 × Int32 × ej_M) ⊕ (Int32 × ej_M))} {res : Option Value × ej_H} {K : ((Int32 × Int32 × Int32 × ej_M) ⊕ (Int32 × ej_M)) → Prop} (hf : f_X8_lawfulMixings_L18b v2 v3 v6 v4 v5 v7 m = some x) (hK : K x) (h1 : ∀ q : (Int32 × Int32 × Int32 × ej_M), K (Sum.inl q) → ej_Z cX8_lawfulMixings 9 (some .int) RX8 "lawfulMixings" (e + 1) 18 [(0, .ref 15), (2, .int v2), (3, .int v3), (4, .int q.1), (5, .int q.2.1), (6, .int v6), (7, .int q.2.2.1)] [] (ej_sh, q.2.2.2) res) (h0 : ∀ q : (Int32 × ej_M), K (Sum.inr q) → res = (some (Value.int q.1), (ej_sh, q.2))) : ej_Z cX8_lawfulMixings 9 (some .int) RX8 "lawfulMixings" (e + 1) 18 [(0, .ref 15), (2, .int v2), (3, .int v3), (4, .int v4), (5, .int v5), (6, .int v6), (7, .int v7)] [] (ej_sh, m) res := by
  unfold f_X8_lawfulMixings_L18b at hf
  refine z_iload (pc := 18) (i := 7) (j := 6) dX8_lawfulMixings_18 rfl ?_
  refine z_iload_n (pc := 20) (i := 2) (j := 1) dX8_lawfulMixings_20 rfl rfl ?_
  refine z_icmp_ge (pc := 21) (tgt := 136) dX8_lawfulMixings_21 (by decide) (fun hc => ?_) (fun hc => ?_)
  · rw [if_pos hc] at hf
    refine z_iload (pc := 136) (i := 4) (j := 3) dX8_lawfulMixings_136 rfl ?_
    obtain rfl := Option.some.inj hf
    rw [h0 _ hK]
    exact z_iret dX8_lawfulMixings_138 rfl rfl
  · rw [if_neg hc] at hf
    refine z_aload_n (pc := 24) (i := 0) (j := 0) dX8_lawfulMixings_24 rfl rfl ?_
    obtain ⟨q1, hq1, hf⟩ := Option.bind_eq_some_iff.mp hf
    refine z_oVv (pc := 25) (as := []) (rest := []) dX8_lawfulMixings_25 lm_RX8_35 mf_X8_beginAnew mi_X8_beginAnew mv_X8_beginAnew rc_15 rfl rfl (Nat.le_of_ble_eq_true rfl) (c_X8_beginAnew e (by omega) m hq1) ?_
    refine z_iload (pc := 28) (i := 6) (j := 5) dX8_lawfulMixings_28 rfl ?_
    refine z_iconst (pc := 30) dX8_lawfulMixings_30 ki_1 ?_
    refine z_isub (pc := 31) dX8_lawfulMixings_31 ?_
    refine z_istore (pc := 32) (i := 8) (ls' := [(8, .int (v6 - 1)), (0, .ref 15), (2, .int v2), (3, .int v3), (4, .int v4), (5, .int v5), (6, .int v6), (7, .int v7)]) dX8_lawfulMixings_32 (Nat.le_of_ble_eq_true rfl) rfl ?_
    exact z_pick [1, 2, 3, 4, 5, 6, 7, 0] rfl (b_X8_lawfulMixings_L34 e hd v2 v3 v4 v6 v7 v5 (v6 - 1) q1.2 (K := K) hf hK h1 h0)
def f_X8_lawfulMixings_L18 (v2 : Int32) (v3 : Int32) (v6 : Int32) (v4 : Int32) (v5 : Int32) (v7 : Int32) (m : ej_M) : Option (Int32 × ej_M) := oj_loop (fun q : (Int32 × Int32 × Int32 × ej_M) => f_X8_lawfulMixings_L18b v2 v3 v6 q.1 q.2.1 q.2.2.1 q.2.2.2) oj_FU (v4, v5, v7, m)
set_option maxHeartbeats 4000000 in
set_option maxRecDepth 100000 in
theorem b_X8_lawfulMixings_L18 (e : Nat) (hd : 4 ≤ e) (v2 : Int32) (v3 : Int32) (v6 : Int32) (v4 : Int32) (v5 : Int32) (v7 : Int32) (m : ej_M) {x : (Int32 × ej_M)} {res : Option Value × ej_H} {K : (Int32 × ej_M) → Prop} (hf : f_X8_lawfulMixings_L18 v2 v3 v6 v4 v5 v7 m = some x) (hK : K x) (h0 : ∀ q : (Int32 × ej_M), K q → res = (some (Value.int q.1), (ej_sh, q.2))) : ej_Z cX8_lawfulMixings 9 (some .int) RX8 "lawfulMixings" (e + 1) 18 [(0, .ref 15), (2, .int v2), (3, .int v3), (4, .int v4), (5, .int v5), (6, .int v6), (7, .int v7)] [] (ej_sh, m) res :=
  oj_loop_Z (body := fun q : (Int32 × Int32 × Int32 × ej_M) => f_X8_lawfulMixings_L18b v2 v3 v6 q.1 q.2.1 q.2.2.1 q.2.2.2) (P := fun q : (Int32 × Int32 × Int32 × ej_M) => ej_Z cX8_lawfulMixings 9 (some .int) RX8 "lawfulMixings" (e + 1) 18 [(0, .ref 15), (2, .int v2), (3, .int v3), (4, .int q.1), (5, .int q.2.1), (6, .int v6), (7, .int q.2.2.1)] [] (ej_sh, q.2.2.2) res) (K := K) (fun s x hb hl hr => b_X8_lawfulMixings_L18b e hd v2 v3 v6  s.1 s.2.1 s.2.2.1 s.2.2.2 (K := fun x => (∀ s' : (Int32 × Int32 × Int32 × ej_M), x = Sum.inl s' → ej_Z cX8_lawfulMixings 9 (some .int) RX8 "lawfulMixings" (e + 1) 18 [(0, .ref 15), (2, .int v2), (3, .int v3), (4, .int s'.1), (5, .int s'.2.1), (6, .int v6), (7, .int s'.2.2.1)] [] (ej_sh, s'.2.2.2) res) ∧ ∀ e, x = Sum.inr e → K e) hb ⟨hl, hr⟩ (fun q hq => hq.1 q rfl) (fun q hq => h0 q (hq.2 _ rfl))) oj_FU (v4, v5, v7, m) x hf hK
def f_X8_lawfulMixings (v1 : Int32) (v2 : Int32) (v3 : Int32) (m : ej_M) : Option (Int32 × ej_M) :=
  f_X8_lawfulMixings_L18 v2 v3 (m.1 6 4) 0 v1 0 m
set_option maxHeartbeats 4000000 in
set_option maxRecDepth 100000 in
theorem b_X8_lawfulMixings (e : Nat) (hd : 4 ≤ e) (v1 : Int32) (v2 : Int32) (v3 : Int32) (m : ej_M) {x : (Int32 × ej_M)} {res : Option Value × ej_H} {K : (Int32 × ej_M) → Prop} (hf : f_X8_lawfulMixings v1 v2 v3 m = some x) (hK : K x) (h0 : ∀ q : (Int32 × ej_M), K q → res = (some (Value.int q.1), (ej_sh, q.2))) : ej_Z cX8_lawfulMixings 9 (some .int) RX8 "lawfulMixings" (e + 1) 0 [(0, .ref 15), (1, .int v1), (2, .int v2), (3, .int v3)] [] (ej_sh, m) res := by
  unfold f_X8_lawfulMixings at hf
  refine z_iconst (pc := 0) dX8_lawfulMixings_0 ki_0 ?_
  refine z_istore (pc := 1) (i := 4) (ls' := [(4, .int 0), (0, .ref 15), (1, .int v1), (2, .int v2), (3, .int v3)]) dX8_lawfulMixings_1 (Nat.le_of_ble_eq_true rfl) rfl ?_
  refine z_iload_n (pc := 3) (i := 1) (j := 2) dX8_lawfulMixings_3 rfl rfl ?_
  refine z_istore (pc := 4) (i := 5) (ls' := [(5, .int v1), (4, .int 0), (0, .ref 15), (1, .int v1), (2, .int v2), (3, .int v3)]) dX8_lawfulMixings_4 (Nat.le_of_ble_eq_true rfl) rfl ?_
  refine z_aload_n (pc := 6) (i := 0) (j := 2) dX8_lawfulMixings_6 rfl rfl ?_
  refine z_ogetR (pc := 7) dX8_lawfulMixings_7 lf_RX8_18 sh_15 rfl rfl rfl ?_
  refine z_ogetI (pc := 10) dX8_lawfulMixings_10 lf_RX8_27 sh_6 rfl rfl ?_
  refine z_istore (pc := 13) (i := 6) (ls' := [(6, .int (m.1 6 4)), (5, .int v1), (4, .int 0), (0, .ref 15), (1, .int v1), (2, .int v2), (3, .int v3)]) dX8_lawfulMixings_13 (Nat.le_of_ble_eq_true rfl) rfl ?_
  refine z_iconst (pc := 15) dX8_lawfulMixings_15 ki_0 ?_
  refine z_istore (pc := 16) (i := 7) (ls' := [(7, .int 0), (6, .int (m.1 6 4)), (5, .int v1), (4, .int 0), (0, .ref 15), (1, .int v1), (2, .int v2), (3, .int v3)]) dX8_lawfulMixings_16 (Nat.le_of_ble_eq_true rfl) rfl ?_
  exact z_pick [4, 6, 7, 3, 2, 1, 0] rfl (b_X8_lawfulMixings_L18 e hd v2 v3 (m.1 6 4) 0 v1 0 m (K := K) hf hK  h0)
set_option maxHeartbeats 4000000 in
set_option maxRecDepth 100000 in
theorem c_X8_lawfulMixings (d : Nat) (hd : 5 ≤ d) (v1 : Int32) (v2 : Int32) (v3 : Int32) (m : ej_M) {q : (Int32 × ej_M)} (hf : f_X8_lawfulMixings v1 v2 v3 m = some q) : ej_Ct yX8_lawfulMixings cX8_lawfulMixings 9 (some .int) d [.ref 15, .int v1, .int v2, .int v3] (ej_sh, m) ((some (Value.int q.1), (ej_sh, q.2)) : Option Value × ej_H) := by
  obtain ⟨e, rfl⟩ : ∃ e, d = e + 1 := ⟨d - 1, by omega⟩
  exact z_met (by decide +kernel) (Nat.le_of_ble_eq_true rfl) (b_X8_lawfulMixings e (by omega) v1 v2 v3 m (K := fun z => ((some (Value.int q.1), (ej_sh, q.2)) : Option Value × ej_H) = (some (Value.int z.1), (ej_sh, z.2))) hf rfl (fun _ h => h))
def f_X10_mixed_B44 (v1 : Int32) (v2 : Int32) (v3 : Int32) (m : ej_M) : Option (Int32 × ej_M) :=
  (f_X8_lawfulMixings v1 v2 v3 m).bind fun q1 =>
  some (q1.1, q1.2)
set_option maxHeartbeats 4000000 in
set_option maxRecDepth 100000 in
theorem b_X10_mixed_B44 (e : Nat) (hd : 5 ≤ e) (v1 : Int32) (v2 : Int32) (v3 : Int32) (m : ej_M) {x : (Int32 × ej_M)} {res : Option Value × ej_H} {K : (Int32 × ej_M) → Prop} (hf : f_X10_mixed_B44 v1 v2 v3 m = some x) (hK : K x) (h0 : ∀ q : (Int32 × ej_M), K q → res = (some (Value.int q.1), (ej_sh, q.2))) : ej_Z cX10_mixed 4 (some .int) RX10 "mixed" (e + 1) 44 [(0, .ref 0), (1, .int v1), (2, .int v2), (3, .int v3)] [] (ej_sh, m) res := by
  unfold f_X10_mixed_B44 at hf
  refine z_aload_n (pc := 44) (i := 0) (j := 0) dX10_mixed_44 rfl rfl ?_
  refine z_ogetR (pc := 45) dX10_mixed_45 lf_RX10_37 sh_0 rfl rfl rfl ?_
  refine z_iload_n (pc := 48) (i := 1) (j := 1) dX10_mixed_48 rfl rfl ?_
  refine z_iload_n (pc := 49) (i := 2) (j := 2) dX10_mixed_49 rfl rfl ?_
  refine z_iload_n (pc := 50) (i := 3) (j := 3) dX10_mixed_50 rfl rfl ?_
  obtain ⟨q1, hq1, hf⟩ := Option.bind_eq_some_iff.mp hf
  refine z_oVi (pc := 51) (as := [.int v1, .int v2, .int v3]) (rest := []) dX10_mixed_51 lm_RX10_240 mf_X8_lawfulMixings mi_X8_lawfulMixings mv_X8_lawfulMixings rc_15 rfl rfl (Nat.le_of_ble_eq_true rfl) (c_X8_lawfulMixings e (by omega) v1 v2 v3 m hq1) ?_
  obtain rfl := Option.some.inj hf
  rw [h0 _ hK]
  exact z_iret dX10_mixed_54 rfl rfl
def f_X10_mixed (v1 : Int32) (v2 : Int32) (v3 : Int32) (m : ej_M) : Option (Int32 × ej_M) :=
  if v2 < 1 then
    some ((-1), m)
  else
    if v2 ≤ 50 then
      if v3 = (-1) then
        f_X10_mixed_B44 v1 v2 v3 m
      else
        (f_X4_has v3 m).bind fun q1 =>
        if q1.1 = 0 then
          some ((-1), q1.2)
        else
          (f_X4_placeOf v3 q1.2).bind fun q2 =>
          if q2.1 = (-2) then
            some ((-1), q2.2)
          else
            f_X10_mixed_B44 v1 v2 v3 q2.2
    else
      some ((-1), m)
set_option maxHeartbeats 4000000 in
set_option maxRecDepth 100000 in
theorem b_X10_mixed (e : Nat) (hd : 5 ≤ e) (v1 : Int32) (v2 : Int32) (v3 : Int32) (m : ej_M) {x : (Int32 × ej_M)} {res : Option Value × ej_H} {K : (Int32 × ej_M) → Prop} (hf : f_X10_mixed v1 v2 v3 m = some x) (hK : K x) (h0 : ∀ q : (Int32 × ej_M), K q → res = (some (Value.int q.1), (ej_sh, q.2))) : ej_Z cX10_mixed 4 (some .int) RX10 "mixed" (e + 1) 0 [(0, .ref 0), (1, .int v1), (2, .int v2), (3, .int v3)] [] (ej_sh, m) res := by
  unfold f_X10_mixed at hf
  refine z_iload_n (pc := 0) (i := 2) (j := 2) dX10_mixed_0 rfl rfl ?_
  refine z_iconst (pc := 1) dX10_mixed_1 ki_1 ?_
  refine z_icmp_lt (pc := 2) (tgt := 11) dX10_mixed_2 (by decide) (fun hc => ?_) (fun hc => ?_)
  · rw [if_pos hc] at hf
    refine z_iconst (pc := 11) dX10_mixed_11 ki_n1 ?_
    obtain rfl := Option.some.inj hf
    rw [h0 _ hK]
    exact z_iret dX10_mixed_12 rfl rfl
  · rw [if_neg hc] at hf
    refine z_iload_n (pc := 5) (i := 2) (j := 2) dX10_mixed_5 rfl rfl ?_
    refine z_bipush (pc := 6) dX10_mixed_6 kb_50 ?_
    refine z_icmp_le (pc := 8) (tgt := 13) dX10_mixed_8 (by decide) (fun hc => ?_) (fun hc => ?_)
    · rw [if_pos hc] at hf
      refine z_iload_n (pc := 13) (i := 3) (j := 3) dX10_mixed_13 rfl rfl ?_
      refine z_iconst (pc := 14) dX10_mixed_14 ki_n1 ?_
      refine z_icmp_eq (pc := 15) (tgt := 44) dX10_mixed_15 (by decide) (fun hc => ?_) (fun hc => ?_)
      · rw [if_pos hc] at hf
        exact z_pick [0, 1, 2, 3] rfl (b_X10_mixed_B44 e hd v1 v2 v3 m (K := K) hf hK  h0)
      · rw [if_neg hc] at hf
        refine z_aload_n (pc := 18) (i := 0) (j := 0) dX10_mixed_18 rfl rfl ?_
        refine z_ogetR (pc := 19) dX10_mixed_19 lf_RX10_21 sh_0 rfl rfl rfl ?_
        refine z_iload_n (pc := 22) (i := 3) (j := 3) dX10_mixed_22 rfl rfl ?_
        obtain ⟨q1, hq1, hf⟩ := Option.bind_eq_some_iff.mp hf
        refine z_oVi (pc := 23) (as := [.int v3]) (rest := []) dX10_mixed_23 lm_RX10_101 mf_X4_has mi_X4_has mv_X4_has rc_6 rfl rfl (Nat.le_of_ble_eq_true rfl) (c_X4_has e (by omega) v3 m hq1) ?_
        refine z_if_eq (pc := 26) (tgt := 42) dX10_mixed_26 (by decide) (fun hc => ?_) (fun hc => ?_)
        · rw [if_pos hc] at hf
          refine z_iconst (pc := 42) dX10_mixed_42 ki_n1 ?_
          obtain rfl := Option.some.inj hf
          rw [h0 _ hK]
          exact z_iret dX10_mixed_43 rfl rfl
        · rw [if_neg hc] at hf
          refine z_aload_n (pc := 29) (i := 0) (j := 0) dX10_mixed_29 rfl rfl ?_
          refine z_ogetR (pc := 30) dX10_mixed_30 lf_RX10_21 sh_0 rfl rfl rfl ?_
          refine z_iload_n (pc := 33) (i := 3) (j := 3) dX10_mixed_33 rfl rfl ?_
          obtain ⟨q2, hq2, hf⟩ := Option.bind_eq_some_iff.mp hf
          refine z_oVi (pc := 34) (as := [.int v3]) (rest := []) dX10_mixed_34 lm_RX10_112 mf_X4_placeOf mi_X4_placeOf mv_X4_placeOf rc_6 rfl rfl (Nat.le_of_ble_eq_true rfl) (c_X4_placeOf e (by omega) v3 q1.2 hq2) ?_
          refine z_bipush (pc := 37) dX10_mixed_37 kb_n2 ?_
          refine z_icmp_ne (pc := 39) (tgt := 44) dX10_mixed_39 (by decide) (fun hc => ?_) (fun hc => ?_)
          · rw [if_neg hc] at hf
            exact z_pick [0, 1, 2, 3] rfl (b_X10_mixed_B44 e hd v1 v2 v3 q2.2 (K := K) hf hK  h0)
          · rw [if_pos hc] at hf
            refine z_iconst (pc := 42) dX10_mixed_42 ki_n1 ?_
            obtain rfl := Option.some.inj hf
            rw [h0 _ hK]
            exact z_iret dX10_mixed_43 rfl rfl
    · rw [if_neg hc] at hf
      refine z_iconst (pc := 11) dX10_mixed_11 ki_n1 ?_
      obtain rfl := Option.some.inj hf
      rw [h0 _ hK]
      exact z_iret dX10_mixed_12 rfl rfl
set_option maxHeartbeats 4000000 in
set_option maxRecDepth 100000 in
theorem c_X10_mixed (d : Nat) (hd : 6 ≤ d) (v1 : Int32) (v2 : Int32) (v3 : Int32) (m : ej_M) {q : (Int32 × ej_M)} (hf : f_X10_mixed v1 v2 v3 m = some q) : ej_Ct yX10_mixed cX10_mixed 4 (some .int) d [.ref 0, .int v1, .int v2, .int v3] (ej_sh, m) ((some (Value.int q.1), (ej_sh, q.2)) : Option Value × ej_H) := by
  obtain ⟨e, rfl⟩ : ∃ e, d = e + 1 := ⟨d - 1, by omega⟩
  exact z_met (by decide +kernel) (Nat.le_of_ble_eq_true rfl) (b_X10_mixed e (by omega) v1 v2 v3 m (K := fun z => ((some (Value.int q.1), (ej_sh, q.2)) : Option Value × ej_H) = (some (Value.int z.1), (ej_sh, z.2))) hf rfl (fun _ h => h))
