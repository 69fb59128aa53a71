def f_X11_mixed_L121b (v2 : Int32) (v3 : Int32) (v4 : Int32) (v5 : Int32) (v6 : Int32) (v7 : Int32) (v8 : Int32) (m : ej_M) : Option ((Int32 × Int32 × ej_M) ⊕ ((Int32 × Int32 × Int32 × ej_M) ⊕ (Int32 × ej_M))) :=
  if (m.1 41 4) ≤ v8 then
    if v7 = 0 then
      some (Sum.inr (Sum.inl (v4, v5, (v6 + 1), m)))
    else
      some (Sum.inr (Sum.inl (v4, (v5 + 1), (v6 + 1), m)))
  else
    (oj_ld 0 m 56 v8).bind fun w1 =>
    if w1 = v3 then
      (f_X11_isLawfulAt v8 m).bind fun q2 =>
      if q2.1 = 0 then
        some (Sum.inl (v7, (v8 + 1), q2.2))
      else
        some (Sum.inl (1, (v8 + 1), q2.2))
    else
      some (Sum.inl (v7, (v8 + 1), m))
set_option maxHeartbeats 4000000 in
set_option maxRecDepth 100000 in
theorem b_X11_mixed_L121b (e : Nat) (hd : 4 ≤ e) (v2 : Int32) (v3 : Int32) (v4 : Int32) (v5 : Int32) (v6 : Int32) (v7 : Int32) (v8 : Int32) (m : ej_M) {x : ((Int32 × Int32 × ej_M) ⊕ ((Int32 × Int32 × Int32 × ej_M) ⊕ (Int32 × ej_M)))} {res : Option Value × ej_H} {K : ((Int32 × Int32 × ej_M) ⊕ ((Int32 × Int32 × Int32 × ej_M) ⊕ (Int32 × ej_M))) → Prop} (hf : f_X11_mixed_L121b v2 v3 v4 v5 v6 v7 v8 m = some x) (hK : K x) (h1 : ∀ q : (Int32 × Int32 × ej_M), K (Sum.inl q) → ej_Z cX11_mixed 9 (some .int) RX11 "mixed" (e + 1) 121 [(0, .ref 41), (2, .int v2), (3, .int v3), (4, .int v4), (5, .int v5), (6, .int v6), (7, .int q.1), (8, .int q.2.1)] [] (ej_sh, q.2.2) res) (h2 : ∀ q : (Int32 × Int32 × Int32 × ej_M), K (Sum.inr (Sum.inl q)) → ej_Z cX11_mixed 9 (some .int) RX11 "mixed" (e + 1) 42 [(0, .ref 41), (2, .int v2), (3, .int v3), (4, .int q.1), (5, .int q.2.1), (6, .int q.2.2.1)] [] (ej_sh, q.2.2.2) res) (h0 : ∀ q : (Int32 × ej_M), K (Sum.inr (Sum.inr q)) → res = (some (Value.int q.1), (ej_sh, q.2))) : ej_Z cX11_mixed 9 (some .int) RX11 "mixed" (e + 1) 121 [(0, .ref 41), (2, .int v2), (3, .int v3), (4, .int v4), (5, .int v5), (6, .int v6), (7, .int v7), (8, .int v8)] [] (ej_sh, m) res := by
  unfold f_X11_mixed_L121b at hf
  refine z_iload (pc := 121) (i := 8) (j := 7) dX11_mixed_121 rfl ?_
  refine z_aload_n (pc := 123) (i := 0) (j := 0) dX11_mixed_123 rfl rfl ?_
  refine z_ogetI (pc := 124) dX11_mixed_124 lf_RX11_108 sh_41 rfl rfl ?_
  refine z_icmp_ge (pc := 127) (tgt := 159) dX11_mixed_127 (by decide) (fun hc => ?_) (fun hc => ?_)
  · rw [if_pos hc] at hf
    refine z_iload (pc := 159) (i := 7) (j := 6) dX11_mixed_159 rfl ?_
    refine z_if_eq (pc := 161) (tgt := 167) dX11_mixed_161 (by decide) (fun hc => ?_) (fun hc => ?_)
    · rw [if_pos hc] at hf
      refine z_iinc (pc := 167) (j := 5) (ls' := [(6, .int (v6 + 1)), (0, .ref 41), (2, .int v2), (3, .int v3), (4, .int v4), (5, .int v5), (7, .int v7), (8, .int v8)]) dX11_mixed_167 rfl ki_1 (Nat.le_of_ble_eq_true rfl) rfl ?_
      refine z_goto (pc := 170) (tgt := 42) dX11_mixed_170 (by decide) ?_
      obtain rfl := Option.some.inj hf
      exact z_pick (ls' := [(0, .ref 41), (2, .int v2), (3, .int v3), (4, .int v4), (5, .int v5), (6, .int (v6 + 1))]) [1, 2, 3, 4, 5, 0] rfl (h2 (v4, v5, (v6 + 1), m) hK)
    · rw [if_neg hc] at hf
      refine z_iinc (pc := 164) (j := 4) (ls' := [(5, .int (v5 + 1)), (0, .ref 41), (2, .int v2), (3, .int v3), (4, .int v4), (6, .int v6), (7, .int v7), (8, .int v8)]) dX11_mixed_164 rfl ki_1 (Nat.le_of_ble_eq_true rfl) rfl ?_
      refine z_iinc (pc := 167) (j := 5) (ls' := [(6, .int (v6 + 1)), (5, .int (v5 + 1)), (0, .ref 41), (2, .int v2), (3, .int v3), (4, .int v4), (7, .int v7), (8, .int v8)]) dX11_mixed_167 rfl ki_1 (Nat.le_of_ble_eq_true rfl) rfl ?_
      refine z_goto (pc := 170) (tgt := 42) dX11_mixed_170 (by decide) ?_
      obtain rfl := Option.some.inj hf
      exact z_pick (ls' := [(0, .ref 41), (2, .int v2), (3, .int v3), (4, .int v4), (5, .int (v5 + 1)), (6, .int (v6 + 1))]) [2, 3, 4, 5, 1, 0] rfl (h2 (v4, (v5 + 1), (v6 + 1), m) hK)
  · rw [if_neg hc] at hf
    refine z_aload_n (pc := 130) (i := 0) (j := 0) dX11_mixed_130 rfl rfl ?_
    refine z_ogetR (pc := 131) dX11_mixed_131 lf_RX11_54 sh_41 rfl rfl rfl ?_
    refine z_iload (pc := 134) (i := 8) (j := 7) dX11_mixed_134 rfl ?_
    obtain ⟨w1, hw1, hf⟩ := Option.bind_eq_some_iff.mp hf
    refine z_oiald (pc := 136) dX11_mixed_136 hw1 ?_
    refine z_iload_n (pc := 137) (i := 3) (j := 2) dX11_mixed_137 rfl rfl ?_
    refine z_icmp_ne (pc := 138) (tgt := 153) dX11_mixed_138 (by decide) (fun hc => ?_) (fun hc => ?_)
    · rw [if_neg hc] at hf
      refine z_iinc (pc := 153) (j := 7) (ls' := [(8, .int (v8 + 1)), (0, .ref 41), (2, .int v2), (3, .int v3), (4, .int v4), (5, .int v5), (6, .int v6), (7, .int v7)]) dX11_mixed_153 rfl ki_1 (Nat.le_of_ble_eq_true rfl) rfl ?_
      refine z_goto (pc := 156) (tgt := 121) dX11_mixed_156 (by decide) ?_
      obtain rfl := Option.some.inj hf
      exact z_pick (ls' := [(0, .ref 41), (2, .int v2), (3, .int v3), (4, .int v4), (5, .int v5), (6, .int v6), (7, .int v7), (8, .int (v8 + 1))]) [1, 2, 3, 4, 5, 6, 7, 0] rfl (h1 (v7, (v8 + 1), m) hK)
    · rw [if_pos hc] at hf
      refine z_aload_n (pc := 141) (i := 0) (j := 0) dX11_mixed_141 rfl rfl ?_
      refine z_iload (pc := 142) (i := 8) (j := 7) dX11_mixed_142 rfl ?_
      obtain ⟨q2, hq2, hf⟩ := Option.bind_eq_some_iff.mp hf
      refine z_oVi (pc := 144) (as := [.int v8]) (rest := []) dX11_mixed_144 lm_RX11_221 mf_X11_isLawfulAt mi_X11_isLawfulAt mv_X11_isLawfulAt rc_41 rfl rfl (Nat.le_of_ble_eq_true rfl) (c_X11_isLawfulAt e (by omega) v8 m hq2) ?_
      refine z_if_eq (pc := 147) (tgt := 153) dX11_mixed_147 (by decide) (fun hc => ?_) (fun hc => ?_)
      · rw [if_pos hc] at hf
        refine z_iinc (pc := 153) (j := 7) (ls' := [(8, .int (v8 + 1)), (0, .ref 41), (2, .int v2), (3, .int v3), (4, .int v4), (5, .int v5), (6, .int v6), (7, .int v7)]) dX11_mixed_153 rfl ki_1 (Nat.le_of_ble_eq_true rfl) rfl ?_
        refine z_goto (pc := 156) (tgt := 121) dX11_mixed_156 (by decide) ?_
        obtain rfl := Option.some.inj hf
        exact z_pick (ls' := [(0, .ref 41), (2, .int v2), (3, .int v3), (4, .int v4), (5, .int v5), (6, .int v6), (7, .int v7), (8, .int (v8 + 1))]) [1, 2, 3, 4, 5, 6, 7, 0] rfl (h1 (v7, (v8 + 1), q2.2) hK)
      · rw [if_neg hc] at hf
        refine z_iconst (pc := 150) dX11_mixed_150 ki_1 ?_
        refine z_istore (pc := 151) (i := 7) (ls' := [(7, .int 1), (0, .ref 41), (2, .int v2), (3, .int v3), (4, .int v4), (5, .int v5), (6, .int v6), (8, .int v8)]) dX11_mixed_151 (Nat.le_of_ble_eq_true rfl) rfl ?_
        refine z_iinc (pc := 153) (j := 7) (ls' := [(8, .int (v8 + 1)), (7, .int 1), (0, .ref 41), (2, .int v2), (3, .int v3), (4, .int v4), (5, .int v5), (6, .int v6)]) dX11_mixed_153 rfl ki_1 (Nat.le_of_ble_eq_true rfl) rfl ?_
        refine z_goto (pc := 156) (tgt := 121) dX11_mixed_156 (by decide) ?_
        obtain rfl := Option.some.inj hf
        exact z_pick (ls' := [(0, .ref 41), (2, .int v2), (3, .int v3), (4, .int v4), (5, .int v5), (6, .int v6), (7, .int 1), (8, .int (v8 + 1))]) [2, 3, 4, 5, 6, 7, 1, 0] rfl (h1 (1, (v8 + 1), q2.2) hK)
def f_X11_mixed_L121 (v2 : Int32) (v3 : Int32) (v4 : Int32) (v5 : Int32) (v6 : Int32) (v7 : Int32) (v8 : Int32) (m : ej_M) : Option ((Int32 × Int32 × Int32 × ej_M) ⊕ (Int32 × ej_M)) := oj_loop (fun q : (Int32 × Int32 × ej_M) => f_X11_mixed_L121b v2 v3 v4 v5 v6 q.1 q.2.1 q.2.2) oj_FU (v7, v8, m)
set_option maxHeartbeats 4000000 in
set_option maxRecDepth 100000 in
theorem b_X11_mixed_L121 (e : Nat) (hd : 4 ≤ e) (v2 : Int32) (v3 : Int32) (v4 : Int32) (v5 : Int32) (v6 : Int32) (v7 : Int32) (v8 : Int32) (m : ej_M) {x : ((Int32 × Int32 × Int32 × ej_M) ⊕ (Int32 × ej_M))} {res : Option Value × ej_H} {K : ((Int32 × Int32 × Int32 × ej_M) ⊕ (Int32 × ej_M)) → Prop} (hf : f_X11_mixed_L121 v2 v3 v4 v5 v6 v7 v8 m = some x) (hK : K x) (h1 : ∀ q : (Int32 × Int32 × Int32 × ej_M), K (Sum.inl q) → ej_Z cX11_mixed 9 (some .int) RX11 "mixed" (e + 1) 42 [(0, .ref 41), (2, .int v2), (3, .int v3), (4, .int q.1), (5, .int q.2.1), (6, .int q.2.2.1)] [] (ej_sh, q.2.2.2) res) (h0 : ∀ q : (Int32 × ej_M), K (Sum.inr q) → res = (some (Value.int q.1), (ej_sh, q.2))) : ej_Z cX11_mixed 9 (some .int) RX11 "mixed" (e + 1) 121 [(0, .ref 41), (2, .int v2), (3, .int v3), (4, .int v4), (5, .int v5), (6, .int v6), (7, .int v7), (8, .int v8)] [] (ej_sh, m) res :=
  oj_loop_Z (body := fun q : (Int32 × Int32 × ej_M) => f_X11_mixed_L121b v2 v3 v4 v5 v6 q.1 q.2.1 q.2.2) (P := fun q : (Int32 × Int32 × ej_M) => ej_Z cX11_mixed 9 (some .int) RX11 "mixed" (e + 1) 121 [(0, .ref 41), (2, .int v2), (3, .int v3), (4, .int v4), (5, .int v5), (6, .int v6), (7, .int q.1), (8, .int q.2.1)] [] (ej_sh, q.2.2) res) (K := K) (fun s x hb hl hr => b_X11_mixed_L121b e hd v2 v3 v4 v5 v6  s.1 s.2.1 s.2.2 (K := fun x => (∀ s' : (Int32 × Int32 × ej_M), x = Sum.inl s' → ej_Z cX11_mixed 9 (some .int) RX11 "mixed" (e + 1) 121 [(0, .ref 41), (2, .int v2), (3, .int v3), (4, .int v4), (5, .int v5), (6, .int v6), (7, .int s'.1), (8, .int s'.2.1)] [] (ej_sh, s'.2.2) res) ∧ ∀ e, x = Sum.inr e → K e) hb ⟨hl, hr⟩ (fun q hq => hq.1 q rfl) (fun q hq => h1 q (hq.2 _ rfl)) (fun q hq => h0 q (hq.2 _ rfl))) oj_FU (v7, v8, m) x hf hK
def f_X11_mixed_L60b (v2 : Int32) (v3 : Int32) (v5 : Int32) (v6 : Int32) (v4 : Int32) (v7 : Int32) (m : ej_M) : Option ((Int32 × Int32 × ej_M) ⊕ ((Int32 × Int32 × Int32 × ej_M) ⊕ (Int32 × ej_M))) :=
  if v7 < 1 then
    if 0 ≤ v3 then
      (f_X11_mixed_L121 v2 v3 v4 v5 v6 0 0 m).map fun y => (Sum.inr y)
    else
      (f_X11_isLawful m).bind fun q1 =>
      if q1.1 = 0 then
        (f_X11_mixed_L121 v2 v3 v4 v5 v6 0 0 q1.2).map fun y => (Sum.inr y)
      else
        (f_X11_mixed_L121 v2 v3 v4 v5 v6 1 0 q1.2).map fun y => (Sum.inr y)
  else
    (oj_rm ((Int32.toUInt32 ((v4 * 1103515245) + 12345) >>> (Int32.toUInt32 8 &&& Int32.toUInt32 31)).toInt32) (v7 + 1)).bind fun w2 =>
    (f_X11_swapRow v7 w2 m).bind fun q3 =>
    some (Sum.inl (((v4 * 1103515245) + 12345), (v7 + (-1)), q3.2))
set_option maxHeartbeats 4000000 in
set_option maxRecDepth 100000 in
theorem b_X11_mixed_L60b (e : Nat) (hd : 4 ≤ e) (v2 : Int32) (v3 : Int32) (v5 : Int32) (v6 : Int32) (v4 : Int32) (v7 : Int32) (m : ej_M) {x : ((Int32 × Int32 × ej_M) ⊕ ((Int32 × Int32 × Int32 × ej_M) ⊕ (Int32 × ej_M)))} {res : Option Value × ej_H} {K : ((Int32 × Int32 × ej_M) ⊕ ((Int32 × Int32 × Int32 × ej_M) ⊕ (Int32 × ej_M))) → Prop} (hf : f_X11_mixed_L60b v2 v3 v5 v6 v4 v7 m = some x) (hK : K x) (h1 : ∀ q : (Int32 × Int32 × ej_M), K (Sum.inl q) → ej_Z cX11_mixed 9 (some .int) RX11 "mixed" (e + 1) 60 [(0, .ref 41), (2, .int v2), (3, .int v3), (4, .int q.1), (5, .int v5), (6, .int v6), (7, .int q.2.1)] [] (ej_sh, q.2.2) res) (h2 : ∀ q : (Int32 × Int32 × Int32 × ej_M), K (Sum.inr (Sum.inl q)) → ej_Z cX11_mixed 9 (some .int) RX11 "mixed" (e + 1) 42 [(0, .ref 41), (2, .int v2), (3, .int v3), (4, .int q.1), (5, .int q.2.1), (6, .int q.2.2.1)] [] (ej_sh, q.2.2.2) res) (h0 : ∀ q : (Int32 × ej_M), K (Sum.inr (Sum.inr q)) → res = (some (Value.int q.1), (ej_sh, q.2))) : ej_Z cX11_mixed 9 (some .int) RX11 "mixed" (e + 1) 60 [(0, .ref 41), (2, .int v2), (3, .int v3), (4, .int v4), (5, .int v5), (6, .int v6), (7, .int v7)] [] (ej_sh, m) res := by
  unfold f_X11_mixed_L60b at hf
  refine z_iload (pc := 60) (i := 7) (j := 6) dX11_mixed_60 rfl ?_
  refine z_iconst (pc := 62) dX11_mixed_62 ki_1 ?_
  refine z_icmp_lt (pc := 63) (tgt := 100) dX11_mixed_63 (by decide) (fun hc => ?_) (fun hc => ?_)
  · rw [if_pos hc] at hf
    refine z_iload_n (pc := 100) (i := 3) (j := 2) dX11_mixed_100 rfl rfl ?_
    refine z_if_ge (pc := 101) (tgt := 115) dX11_mixed_101 (by decide) (fun hc => ?_) (fun hc => ?_)
    · rw [if_pos hc] at hf
      refine z_iconst (pc := 115) dX11_mixed_115 ki_0 ?_
      refine z_istore (pc := 116) (i := 7) (ls' := [(7, .int 0), (0, .ref 41), (2, .int v2), (3, .int v3), (4, .int v4), (5, .int v5), (6, .int v6)]) dX11_mixed_116 (Nat.le_of_ble_eq_true rfl) rfl ?_
      refine z_iconst (pc := 118) dX11_mixed_118 ki_0 ?_
      refine z_istore (pc := 119) (i := 8) (ls' := [(8, .int 0), (7, .int 0), (0, .ref 41), (2, .int v2), (3, .int v3), (4, .int v4), (5, .int v5), (6, .int v6)]) dX11_mixed_119 (Nat.le_of_ble_eq_true rfl) rfl ?_
      obtain ⟨y, hy, hxy⟩ := Option.map_eq_some_iff.mp hf
      subst hxy
      exact z_pick [2, 3, 4, 5, 6, 7, 1, 0] rfl (b_X11_mixed_L121 e hd v2 v3 v4 v5 v6 0 0 m (K := fun y => K (Sum.inr y)) hy hK h2 h0)
    · rw [if_neg hc] at hf
      refine z_aload_n (pc := 104) (i := 0) (j := 0) dX11_mixed_104 rfl rfl ?_
      obtain ⟨q1, hq1, hf⟩ := Option.bind_eq_some_iff.mp hf
      refine z_oVi (pc := 105) (as := []) (rest := []) dX11_mixed_105 lm_RX11_230 mf_X11_isLawful mi_X11_isLawful mv_X11_isLawful rc_41 rfl rfl (Nat.le_of_ble_eq_true rfl) (c_X11_isLawful e (by omega) m hq1) ?_
      refine z_if_eq (pc := 108) (tgt := 115) dX11_mixed_108 (by decide) (fun hc => ?_) (fun hc => ?_)
      · rw [if_pos hc] at hf
        refine z_iconst (pc := 115) dX11_mixed_115 ki_0 ?_
        refine z_istore (pc := 116) (i := 7) (ls' := [(7, .int 0), (0, .ref 41), (2, .int v2), (3, .int v3), (4, .int v4), (5, .int v5), (6, .int v6)]) dX11_mixed_116 (Nat.le_of_ble_eq_true rfl) rfl ?_
        refine z_iconst (pc := 118) dX11_mixed_118 ki_0 ?_
        refine z_istore (pc := 119) (i := 8) (ls' := [(8, .int 0), (7, .int 0), (0, .ref 41), (2, .int v2), (3, .int v3), (4, .int v4), (5, .int v5), (6, .int v6)]) dX11_mixed_119 (Nat.le_of_ble_eq_true rfl) rfl ?_
        obtain ⟨y, hy, hxy⟩ := Option.map_eq_some_iff.mp hf
        subst hxy
        exact z_pick [2, 3, 4, 5, 6, 7, 1, 0] rfl (b_X11_mixed_L121 e hd v2 v3 v4 v5 v6 0 0 q1.2 (K := fun y => K (Sum.inr y)) hy hK h2 h0)
      · rw [if_neg hc] at hf
        refine z_iconst (pc := 111) dX11_mixed_111 ki_1 ?_
        refine z_goto (pc := 112) (tgt := 116) dX11_mixed_112 (by decide) ?_
        refine z_istore (pc := 116) (i := 7) (ls' := [(7, .int 1), (0, .ref 41), (2, .int v2), (3, .int v3), (4, .int v4), (5, .int v5), (6, .int v6)]) dX11_mixed_116 (Nat.le_of_ble_eq_true rfl) rfl ?_
        refine z_iconst (pc := 118) dX11_mixed_118 ki_0 ?_
        refine z_istore (pc := 119) (i := 8) (ls' := [(8, .int 0), (7, .int 1), (0, .ref 41), (2, .int v2), (3, .int v3), (4, .int v4), (5, .int v5), (6, .int v6)]) dX11_mixed_119 (Nat.le_of_ble_eq_true rfl) rfl ?_
        obtain ⟨y, hy, hxy⟩ := Option.map_eq_some_iff.mp hf
        subst hxy
        exact z_pick [2, 3, 4, 5, 6, 7, 1, 0] rfl (b_X11_mixed_L121 e hd v2 v3 v4 v5 v6 1 0 q1.2 (K := fun y => K (Sum.inr y)) hy hK h2 h0)
  · rw [if_neg hc] at hf
    refine z_iload (pc := 66) (i := 4) (j := 3) dX11_mixed_66 rfl ?_
    refine z_ldcw (pc := 68) dX11_mixed_68 lc_RX11_325 ?_
    refine z_imul (pc := 71) dX11_mixed_71 ?_
    refine z_sipush (pc := 72) dX11_mixed_72 ks_12345 ?_
    refine z_iadd (pc := 75) dX11_mixed_75 ?_
    refine z_istore (pc := 76) (i := 4) (ls' := [(4, .int ((v4 * 1103515245) + 12345)), (0, .ref 41), (2, .int v2), (3, .int v3), (5, .int v5), (6, .int v6), (7, .int v7)]) dX11_mixed_76 (Nat.le_of_ble_eq_true rfl) rfl ?_
    refine z_aload_n (pc := 78) (i := 0) (j := 1) dX11_mixed_78 rfl rfl ?_
    refine z_iload (pc := 79) (i := 7) (j := 6) dX11_mixed_79 rfl ?_
    refine z_iload (pc := 81) (i := 4) (j := 0) dX11_mixed_81 rfl ?_
    refine z_bipush (pc := 83) dX11_mixed_83 kb_8 ?_
    refine z_iushr (pc := 85) dX11_mixed_85 ?_
    refine z_iload (pc := 86) (i := 7) (j := 6) dX11_mixed_86 rfl ?_
    refine z_iconst (pc := 88) dX11_mixed_88 ki_1 ?_
    refine z_iadd (pc := 89) dX11_mixed_89 ?_
    obtain ⟨w2, hw2, hf⟩ := Option.bind_eq_some_iff.mp hf
    refine z_orem (pc := 90) dX11_mixed_90 hw2 ?_
    obtain ⟨q3, hq3, hf⟩ := Option.bind_eq_some_iff.mp hf
    refine z_oVv (pc := 91) (as := [.int v7, .int w2]) (rest := []) dX11_mixed_91 lm_RX11_224 mf_X11_swapRow mi_X11_swapRow mv_X11_swapRow rc_41 rfl rfl (Nat.le_of_ble_eq_true rfl) (c_X11_swapRow e (by omega) v7 w2 m hq3) ?_
    refine z_iinc (pc := 94) (j := 6) (ls' := [(7, .int (v7 + (-1))), (4, .int ((v4 * 1103515245) + 12345)), (0, .ref 41), (2, .int v2), (3, .int v3), (5, .int v5), (6, .int v6)]) dX11_mixed_94 rfl ki_n1 (Nat.le_of_ble_eq_true rfl) rfl ?_
    refine z_goto (pc := 97) (tgt := 60) dX11_mixed_97 (by decide) ?_
    obtain rfl := Option.some.inj hf
    exact z_pick (ls' := [(0, .ref 41), (2, .int v2), (3, .int v3), (4, .int ((v4 * 1103515245) + 12345)), (5, .int v5), (6, .int v6), (7, .int (v7 + (-1)))]) [2, 3, 4, 1, 5, 6, 0] rfl (h1 (((v4 * 1103515245) + 12345), (v7 + (-1)), q3.2) hK)
def f_X11_mixed_L60 (v2 : Int32) (v3 : Int32) (v5 : Int32) (v6 : Int32) (v4 : Int32) (v7 : Int32) (m : ej_M) : Option ((Int32 × Int32 × Int32 × ej_M) ⊕ (Int32 × ej_M)) := oj_loop (fun q : (Int32 × Int32 × ej_M) => f_X11_mixed_L60b v2 v3 v5 v6 q.1 q.2.1 q.2.2) oj_FU (v4, v7, m)
set_option maxHeartbeats 4000000 in
set_option maxRecDepth 100000 in
theorem b_X11_mixed_L60 (e : Nat) (hd : 4 ≤ e) (v2 : Int32) (v3 : Int32) (v5 : Int32) (v6 : Int32) (v4 : Int32) (v7 : Int32) (m : ej_M) {x : ((Int32 × Int32 × Int32 × ej_M) ⊕ (Int32 × ej_M))} {res : Option Value × ej_H} {K : ((Int32 × Int32 × Int32 × ej_M) ⊕ (Int32 × ej_M)) → Prop} (hf : f_X11_mixed_L60 v2 v3 v5 v6 v4 v7 m = some x) (hK : K x) (h1 : ∀ q : (Int32 × Int32 × Int32 × ej_M), K (Sum.inl q) → ej_Z cX11_mixed 9 (some .int) RX11 "mixed" (e + 1) 42 [(0, .ref 41), (2, .int v2), (3, .int v3), (4, .int q.1), (5, .int q.2.1), (6, .int q.2.2.1)] [] (ej_sh, q.2.2.2) res) (h0 : ∀ q : (Int32 × ej_M), K (Sum.inr q) → res = (some (Value.int q.1), (ej_sh, q.2))) : ej_Z cX11_mixed 9 (some .int) RX11 "mixed" (e + 1) 60 [(0, .ref 41), (2, .int v2), (3, .int v3), (4, .int v4), (5, .int v5), (6, .int v6), (7, .int v7)] [] (ej_sh, m) res :=
  oj_loop_Z (body := fun q : (Int32 × Int32 × ej_M) => f_X11_mixed_L60b v2 v3 v5 v6 q.1 q.2.1 q.2.2) (P := fun q : (Int32 × Int32 × ej_M) => ej_Z cX11_mixed 9 (some .int) RX11 "mixed" (e + 1) 60 [(0, .ref 41), (2, .int v2), (3, .int v3), (4, .int q.1), (5, .int v5), (6, .int v6), (7, .int q.2.1)] [] (ej_sh, q.2.2) res) (K := K) (fun s x hb hl hr => b_X11_mixed_L60b e hd v2 v3 v5 v6  s.1 s.2.1 s.2.2 (K := fun x => (∀ s' : (Int32 × Int32 × ej_M), x = Sum.inl s' → ej_Z cX11_mixed 9 (some .int) RX11 "mixed" (e + 1) 60 [(0, .ref 41), (2, .int v2), (3, .int v3), (4, .int s'.1), (5, .int v5), (6, .int v6), (7, .int s'.2.1)] [] (ej_sh, s'.2.2) res) ∧ ∀ e, x = Sum.inr e → K e) hb ⟨hl, hr⟩ (fun q hq => hq.1 q rfl) (fun q hq => h1 q (hq.2 _ rfl)) (fun q hq => h0 q (hq.2 _ rfl))) oj_FU (v4, v7, m) x hf hK
def f_X11_mixed_L42b (v2 : Int32) (v3 : Int32) (v4 : Int32) (v5 : Int32) (v6 : Int32) (m : ej_M) : Option ((Int32 × Int32 × Int32 × ej_M) ⊕ (Int32 × ej_M)) :=
  if v2 ≤ v6 then
    some (Sum.inr (v5, m))
  else
    (f_X11_see m).bind fun q1 =>
    f_X11_mixed_L60 v2 v3 v5 v6 v4 ((q1.2.1 41 4) - 1) q1.2
set_option maxHeartbeats 4000000 in
set_option maxRecDepth 100000 in
theorem b_X11_mixed_L42b (e : Nat) (hd : 4 ≤ e) (v2 : Int32) (v3 : Int32) (v4 : Int32) (v5 : Int32) (v6 : Int32) (m : ej_M) {x : ((Int32 × Int32 × Int32 × ej_M) ⊕ (Int32 × ej_M))} {res : Option Value × ej_H} {K : ((Int32 × Int32 × Int32 × ej_M) ⊕ (Int32 × ej_M)) → Prop} (hf : f_X11_mixed_L42b v2 v3 v4 v5 v6 m = some x) (hK : K x) (h1 : ∀ q : (Int32 × Int32 × Int32 × ej_M), K (Sum.inl q) → ej_Z cX11_mixed 9 (some .int) RX11 "mixed" (e + 1) 42 [(0, .ref 41), (2, .int v2), (3, .int v3), (4, .int q.1), (5, .int q.2.1), (6, .int q.2.2.1)] [] (ej_sh, q.2.2.2) res) (h0 : ∀ q : (Int32 × ej_M), K (Sum.inr q) → res = (some (Value.int q.1), (ej_sh, q.2))) : ej_Z cX11_mixed 9 (some .int) RX11 "mixed" (e + 1) 42 [(0, .ref 41), (2, .int v2), (3, .int v3), (4, .int v4), (5, .int v5), (6, .int v6)] [] (ej_sh, m) res := by
  unfold f_X11_mixed_L42b at hf
  refine z_iload (pc := 42) (i := 6) (j := 5) dX11_mixed_42 rfl ?_
  refine z_iload_n (pc := 44) (i := 2) (j := 1) dX11_mixed_44 rfl rfl ?_
  refine z_icmp_ge (pc := 45) (tgt := 173) dX11_mixed_45 (by decide) (fun hc => ?_) (fun hc => ?_)
  · rw [if_pos hc] at hf
    refine z_iload (pc := 173) (i := 5) (j := 4) dX11_mixed_173 rfl ?_
    obtain rfl := Option.some.inj hf
    rw [h0 _ hK]
    exact z_iret dX11_mixed_175 rfl rfl
  · rw [if_neg hc] at hf
    refine z_aload_n (pc := 48) (i := 0) (j := 0) dX11_mixed_48 rfl rfl ?_
    obtain ⟨q1, hq1, hf⟩ := Option.bind_eq_some_iff.mp hf
    refine z_oVv (pc := 49) (as := []) (rest := []) dX11_mixed_49 lm_RX11_227 mf_X11_see mi_X11_see mv_X11_see rc_41 rfl rfl (Nat.le_of_ble_eq_true rfl) (c_X11_see e (by omega) m hq1) ?_
    refine z_aload_n (pc := 52) (i := 0) (j := 0) dX11_mixed_52 rfl rfl ?_
    refine z_ogetI (pc := 53) dX11_mixed_53 lf_RX11_108 sh_41 rfl rfl ?_
    refine z_iconst (pc := 56) dX11_mixed_56 ki_1 ?_
    refine z_isub (pc := 57) dX11_mixed_57 ?_
    refine z_istore (pc := 58) (i := 7) (ls' := [(7, .int ((q1.2.1 41 4) - 1)), (0, .ref 41), (2, .int v2), (3, .int v3), (4, .int v4), (5, .int v5), (6, .int v6)]) dX11_mixed_58 (Nat.le_of_ble_eq_true rfl) rfl ?_
    exact z_pick [1, 2, 3, 4, 5, 6, 0] rfl (b_X11_mixed_L60 e hd v2 v3 v5 v6 v4 ((q1.2.1 41 4) - 1) q1.2 (K := K) hf hK h1 h0)
def f_X11_mixed_L42 (v2 : Int32) (v3 : Int32) (v4 : Int32) (v5 : Int32) (v6 : Int32) (m : ej_M) : Option (Int32 × ej_M) := oj_loop (fun q : (Int32 × Int32 × Int32 × ej_M) => f_X11_mixed_L42b v2 v3 q.1 q.2.1 q.2.2.1 q.2.2.2) oj_FU (v4, v5, v6, m)
set_option maxHeartbeats 4000000 in
set_option maxRecDepth 100000 in
theorem b_X11_mixed_L42 (e : Nat) (hd : 4 ≤ e) (v2 : Int32) (v3 : Int32) (v4 : Int32) (v5 : Int32) (v6 : Int32) (m : ej_M) {x : (Int32 × ej_M)} {res : Option Value × ej_H} {K : (Int32 × ej_M) → Prop} (hf : f_X11_mixed_L42 v2 v3 v4 v5 v6 m = some x) (hK : K x) (h0 : ∀ q : (Int32 × ej_M), K q → res = (some (Value.int q.1), (ej_sh, q.2))) : ej_Z cX11_mixed 9 (some .int) RX11 "mixed" (e + 1) 42 [(0, .ref 41), (2, .int v2), (3, .int v3), (4, .int v4), (5, .int v5), (6, .int v6)] [] (ej_sh, m) res :=
  oj_loop_Z (body := fun q : (Int32 × Int32 × Int32 × ej_M) => f_X11_mixed_L42b v2 v3 q.1 q.2.1 q.2.2.1 q.2.2.2) (P := fun q : (Int32 × Int32 × Int32 × ej_M) => ej_Z cX11_mixed 9 (some .int) RX11 "mixed" (e + 1) 42 [(0, .ref 41), (2, .int v2), (3, .int v3), (4, .int q.1), (5, .int q.2.1), (6, .int q.2.2.1)] [] (ej_sh, q.2.2.2) res) (K := K) (fun s x hb hl hr => b_X11_mixed_L42b e hd v2 v3  s.1 s.2.1 s.2.2.1 s.2.2.2 (K := fun x => (∀ s' : (Int32 × Int32 × Int32 × ej_M), x = Sum.inl s' → ej_Z cX11_mixed 9 (some .int) RX11 "mixed" (e + 1) 42 [(0, .ref 41), (2, .int v2), (3, .int v3), (4, .int s'.1), (5, .int s'.2.1), (6, .int s'.2.2.1)] [] (ej_sh, s'.2.2.2) res) ∧ ∀ e, x = Sum.inr e → K e) hb ⟨hl, hr⟩ (fun q hq => hq.1 q rfl) (fun q hq => h0 q (hq.2 _ rfl))) oj_FU (v4, v5, v6, m) x hf hK
def f_X11_mixed (v1 : Int32) (v2 : Int32) (v3 : Int32) (m : ej_M) : Option (Int32 × ej_M) :=
  (f_X11_in v2 1 50 m).bind fun q1 =>
  if q1.1 = 0 then
    some ((-1), q1.2)
  else
    if v3 = (-1) then
      f_X11_mixed_L42 v2 v3 v1 0 0 q1.2
    else
      (f_X11_isStone v3 q1.2).bind fun q2 =>
      if q2.1 = 0 then
        some ((-1), q2.2)
      else
        (f_X11_placeOf v3 q2.2).bind fun q3 =>
        if 0 ≤ q3.1 then
          f_X11_mixed_L42 v2 v3 v1 0 0 q3.2
        else
          some ((-1), q3.2)
set_option maxHeartbeats 4000000 in
set_option maxRecDepth 100000 in
theorem b_X11_mixed (e : Nat) (hd : 4 ≤ e) (v1 : Int32) (v2 : Int32) (v3 : Int32) (m : ej_M) {x : (Int32 × ej_M)} {res : Option Value × ej_H} {K : (Int32 × ej_M) → Prop} (hf : f_X11_mixed v1 v2 v3 m = some x) (hK : K x) (h0 : ∀ q : (Int32 × ej_M), K q → res = (some (Value.int q.1), (ej_sh, q.2))) : ej_Z cX11_mixed 9 (some .int) RX11 "mixed" (e + 1) 0 [(0, .ref 41), (1, .int v1), (2, .int v2), (3, .int v3)] [] (ej_sh, m) res := by
  unfold f_X11_mixed at hf
  refine z_iload_n (pc := 0) (i := 2) (j := 2) dX11_mixed_0 rfl rfl ?_
  refine z_iconst (pc := 1) dX11_mixed_1 ki_1 ?_
  refine z_bipush (pc := 2) dX11_mixed_2 kb_50 ?_
  obtain ⟨q1, hq1, hf⟩ := Option.bind_eq_some_iff.mp hf
  refine z_oSi (pc := 4) (as := [.int v2, .int 1, .int 50]) (rest := []) dX11_mixed_4 lm_RX11_104 mf_X11_in ms_X11_in rfl rfl (Nat.le_of_ble_eq_true rfl) (c_X11_in e (by omega) v2 1 50 m hq1) ?_
  refine z_if_eq (pc := 7) (tgt := 31) dX11_mixed_7 (by decide) (fun hc => ?_) (fun hc => ?_)
  · rw [if_pos hc] at hf
    refine z_iconst (pc := 31) dX11_mixed_31 ki_n1 ?_
    obtain rfl := Option.some.inj hf
    rw [h0 _ hK]
    exact z_iret dX11_mixed_32 rfl rfl
  · rw [if_neg hc] at hf
    refine z_iload_n (pc := 10) (i := 3) (j := 3) dX11_mixed_10 rfl rfl ?_
    refine z_iconst (pc := 11) dX11_mixed_11 ki_n1 ?_
    refine z_icmp_eq (pc := 12) (tgt := 33) dX11_mixed_12 (by decide) (fun hc => ?_) (fun hc => ?_)
    · rw [if_pos hc] at hf
      refine z_iload_n (pc := 33) (i := 1) (j := 1) dX11_mixed_33 rfl rfl ?_
      refine z_istore (pc := 34) (i := 4) (ls' := [(4, .int v1), (0, .ref 41), (1, .int v1), (2, .int v2), (3, .int v3)]) dX11_mixed_34 (Nat.le_of_ble_eq_true rfl) rfl ?_
      refine z_iconst (pc := 36) dX11_mixed_36 ki_0 ?_
      refine z_istore (pc := 37) (i := 5) (ls' := [(5, .int 0), (4, .int v1), (0, .ref 41), (1, .int v1), (2, .int v2), (3, .int v3)]) dX11_mixed_37 (Nat.le_of_ble_eq_true rfl) rfl ?_
      refine z_iconst (pc := 39) dX11_mixed_39 ki_0 ?_
      refine z_istore (pc := 40) (i := 6) (ls' := [(6, .int 0), (5, .int 0), (4, .int v1), (0, .ref 41), (1, .int v1), (2, .int v2), (3, .int v3)]) dX11_mixed_40 (Nat.le_of_ble_eq_true rfl) rfl ?_
      exact z_pick [3, 5, 6, 2, 1, 0] rfl (b_X11_mixed_L42 e hd v2 v3 v1 0 0 q1.2 (K := K) hf hK  h0)
    · rw [if_neg hc] at hf
      refine z_aload_n (pc := 15) (i := 0) (j := 0) dX11_mixed_15 rfl rfl ?_
      refine z_iload_n (pc := 16) (i := 3) (j := 3) dX11_mixed_16 rfl rfl ?_
      obtain ⟨q2, hq2, hf⟩ := Option.bind_eq_some_iff.mp hf
      refine z_oVi (pc := 17) (as := [.int v3]) (rest := []) dX11_mixed_17 lm_RX11_136 mf_X11_isStone mi_X11_isStone mv_X11_isStone rc_41 rfl rfl (Nat.le_of_ble_eq_true rfl) (c_X11_isStone e (by omega) v3 q1.2 hq2) ?_
      refine z_if_eq (pc := 20) (tgt := 31) dX11_mixed_20 (by decide) (fun hc => ?_) (fun hc => ?_)
      · rw [if_pos hc] at hf
        refine z_iconst (pc := 31) dX11_mixed_31 ki_n1 ?_
        obtain rfl := Option.some.inj hf
        rw [h0 _ hK]
        exact z_iret dX11_mixed_32 rfl rfl
      · rw [if_neg hc] at hf
        refine z_aload_n (pc := 23) (i := 0) (j := 0) dX11_mixed_23 rfl rfl ?_
        refine z_iload_n (pc := 24) (i := 3) (j := 3) dX11_mixed_24 rfl rfl ?_
        obtain ⟨q3, hq3, hf⟩ := Option.bind_eq_some_iff.mp hf
        refine z_oVi (pc := 25) (as := [.int v3]) (rest := []) dX11_mixed_25 lm_RX11_233 mf_X11_placeOf mi_X11_placeOf mv_X11_placeOf rc_41 rfl rfl (Nat.le_of_ble_eq_true rfl) (c_X11_placeOf e (by omega) v3 q2.2 hq3) ?_
        refine z_if_ge (pc := 28) (tgt := 33) dX11_mixed_28 (by decide) (fun hc => ?_) (fun hc => ?_)
        · rw [if_pos hc] at hf
          refine z_iload_n (pc := 33) (i := 1) (j := 1) dX11_mixed_33 rfl rfl ?_
          refine z_istore (pc := 34) (i := 4) (ls' := [(4, .int v1), (0, .ref 41), (1, .int v1), (2, .int v2), (3, .int v3)]) dX11_mixed_34 (Nat.le_of_ble_eq_true rfl) rfl ?_
          refine z_iconst (pc := 36) dX11_mixed_36 ki_0 ?_
          refine z_istore (pc := 37) (i := 5) (ls' := [(5, .int 0), (4, .int v1), (0, .ref 41), (1, .int v1), (2, .int v2), (3, .int v3)]) dX11_mixed_37 (Nat.le_of_ble_eq_true rfl) rfl ?_
          refine z_iconst (pc := 39) dX11_mixed_39 ki_0 ?_
          refine z_istore (pc := 40) (i := 6) (ls' := [(6, .int 0), (5, .int 0), (4, .int v1), (0, .ref 41), (1, .int v1), (2, .int v2), (3, .int v3)]) dX11_mixed_40 (Nat.le_of_ble_eq_true rfl) rfl ?_
          exact z_pick [3, 5, 6, 2, 1, 0] rfl (b_X11_mixed_L42 e hd v2 v3 v1 0 0 q3.2 (K := K) hf hK  h0)
        · rw [if_neg hc] at hf
          refine z_iconst (pc := 31) dX11_mixed_31 ki_n1 ?_
          obtain rfl := Option.some.inj hf
          rw [h0 _ hK]
          exact z_iret dX11_mixed_32 rfl rfl
set_option maxHeartbeats 4000000 in
set_option maxRecDepth 100000 in
theorem c_X11_mixed (d : Nat) (hd : 5 ≤ d) (v1 : Int32) (v2 : Int32) (v3 : Int32) (m : ej_M) {q : (Int32 × ej_M)} (hf : f_X11_mixed v1 v2 v3 m = some q) : ej_Ct yX11_mixed cX11_mixed 9 (some .int) d [.ref 41, .int v1, .int v2, .int v3] (ej_sh, m) ((some (Value.int q.1), (ej_sh, q.2)) : Option Value × ej_H) := by
  obtain ⟨e, rfl⟩ : ∃ e, d = e + 1 := ⟨d - 1, by omega⟩
  exact z_met (by decide +kernel) (Nat.le_of_ble_eq_true rfl) (b_X11_mixed e (by omega) v1 v2 v3 m (K := fun z => ((some (Value.int q.1), (ej_sh, q.2)) : Option Value × ej_H) = (some (Value.int z.1), (ej_sh, z.2))) hf rfl (fun _ h => h))
def f_X4_keepImage  (m : ej_M) : Option (Int32 × ej_M) :=
  (f_X10_copy 8 9 (m.1 6 4) m).bind fun q1 =>
  (oj_pf q1.2 6 10 (q1.2.1 6 4)).bind fun m2 =>
  (oj_pf m2 6 11 (m2.1 6 6)).bind fun m3 =>
  (oj_pf m3 6 12 (m3.1 6 7)).bind fun m4 =>
  (oj_pz m4 6 8 1).bind fun m5 =>
  some ((m5.1 6 4), m5)
set_option maxHeartbeats 4000000 in
set_option maxRecDepth 100000 in
theorem b_X4_keepImage (e : Nat) (hd : 1 ≤ e)  (m : ej_M) {x : (Int32 × ej_M)} {res : Option Value × ej_H} {K : (Int32 × ej_M) → Prop} (hf : f_X4_keepImage  m = some x) (hK : K x) (h0 : ∀ q : (Int32 × ej_M), K q → res = (some (Value.int q.1), (ej_sh, q.2))) : ej_Z cX4_keepImage 1 (some .int) RX4 "keepImage" (e + 1) 0 [(0, .ref 6)] [] (ej_sh, m) res := by
  unfold f_X4_keepImage at hf
  refine z_aload_n (pc := 0) (i := 0) (j := 0) dX4_keepImage_0 rfl rfl ?_
  refine z_ogetR (pc := 1) dX4_keepImage_1 lf_RX4_15 sh_6 rfl rfl rfl ?_
  refine z_aload_n (pc := 4) (i := 0) (j := 0) dX4_keepImage_4 rfl rfl ?_
  refine z_ogetR (pc := 5) dX4_keepImage_5 lf_RX4_18 sh_6 rfl rfl rfl ?_
  refine z_aload_n (pc := 8) (i := 0) (j := 0) dX4_keepImage_8 rfl rfl ?_
  refine z_ogetI (pc := 9) dX4_keepImage_9 lf_RX4_43 sh_6 rfl rfl ?_
  obtain ⟨q1, hq1, hf⟩ := Option.bind_eq_some_iff.mp hf
  refine z_oSv (pc := 12) (as := [.ref 8, .ref 9, .int (m.1 6 4)]) (rest := []) dX4_keepImage_12 lm_RX4_102 mf_X10_copy ms_X10_copy rfl rfl (Nat.le_of_ble_eq_true rfl) (c_X10_copy e (by omega) 8 9 (m.1 6 4) m hq1) ?_
  refine z_aload_n (pc := 15) (i := 0) (j := 0) dX4_keepImage_15 rfl rfl ?_
  refine z_aload_n (pc := 16) (i := 0) (j := 0) dX4_keepImage_16 rfl rfl ?_
  refine z_ogetI (pc := 17) dX4_keepImage_17 lf_RX4_43 sh_6 rfl rfl ?_
  obtain ⟨m2, hm2, hf⟩ := Option.bind_eq_some_iff.mp hf
  refine z_oputI (pc := 20) dX4_keepImage_20 lf_RX4_106 sh_6 rfl hm2 ?_
  refine z_aload_n (pc := 23) (i := 0) (j := 0) dX4_keepImage_23 rfl rfl ?_
  refine z_aload_n (pc := 24) (i := 0) (j := 0) dX4_keepImage_24 rfl rfl ?_
  refine z_ogetI (pc := 25) dX4_keepImage_25 lf_RX4_92 sh_6 rfl rfl ?_
  obtain ⟨m3, hm3, hf⟩ := Option.bind_eq_some_iff.mp hf
  refine z_oputI (pc := 28) dX4_keepImage_28 lf_RX4_109 sh_6 rfl hm3 ?_
  refine z_aload_n (pc := 31) (i := 0) (j := 0) dX4_keepImage_31 rfl rfl ?_
  refine z_aload_n (pc := 32) (i := 0) (j := 0) dX4_keepImage_32 rfl rfl ?_
  refine z_ogetI (pc := 33) dX4_keepImage_33 lf_RX4_99 sh_6 rfl rfl ?_
  obtain ⟨m4, hm4, hf⟩ := Option.bind_eq_some_iff.mp hf
  refine z_oputI (pc := 36) dX4_keepImage_36 lf_RX4_112 sh_6 rfl hm4 ?_
  refine z_aload_n (pc := 39) (i := 0) (j := 0) dX4_keepImage_39 rfl rfl ?_
  refine z_iconst (pc := 40) dX4_keepImage_40 ki_1 ?_
  obtain ⟨m5, hm5, hf⟩ := Option.bind_eq_some_iff.mp hf
  refine z_oputZ (pc := 41) dX4_keepImage_41 lf_RX4_115 sh_6 rfl hm5 ?_
  refine z_aload_n (pc := 44) (i := 0) (j := 0) dX4_keepImage_44 rfl rfl ?_
  refine z_ogetI (pc := 45) dX4_keepImage_45 lf_RX4_43 sh_6 rfl rfl ?_
  obtain rfl := Option.some.inj hf
  rw [h0 _ hK]
  exact z_iret dX4_keepImage_48 rfl rfl
set_option maxHeartbeats 4000000 in
set_option maxRecDepth 100000 in
theorem c_X4_keepImage (d : Nat) (hd : 2 ≤ d)  (m : ej_M) {q : (Int32 × ej_M)} (hf : f_X4_keepImage  m = some q) : ej_Ct yX4_keepImage cX4_keepImage 1 (some .int) d [.ref 6] (ej_sh, m) ((some (Value.int q.1), (ej_sh, q.2)) : Option Value × ej_H) := by
  obtain ⟨e, rfl⟩ : ∃ e, d = e + 1 := ⟨d - 1, by omega⟩
  exact z_met (by decide +kernel) (Nat.le_of_ble_eq_true rfl) (b_X4_keepImage e (by omega)  m (K := fun z => ((some (Value.int q.1), (ej_sh, q.2)) : Option Value × ej_H) = (some (Value.int z.1), (ej_sh, z.2))) hf rfl (fun _ h => h))
def f_X10_image  (m : ej_M) : Option (Int32 × ej_M) :=
  (f_X4_keepImage m).bind fun q1 =>
  some (q1.1, q1.2)
set_option maxHeartbeats 4000000 in
set_option maxRecDepth 100000 in
theorem b_X10_image (e : Nat) (hd : 2 ≤ e)  (m : ej_M) {x : (Int32 × ej_M)} {res : Option Value × ej_H} {K : (Int32 × ej_M) → Prop} (hf : f_X10_image  m = some x) (hK : K x) (h0 : ∀ q : (Int32 × ej_M), K q → res = (some (Value.int q.1), (ej_sh, q.2))) : ej_Z cX10_image 1 (some .int) RX10 "image" (e + 1) 0 [(0, .ref 0)] [] (ej_sh, m) res := by
  unfold f_X10_image at hf
  refine z_aload_n (pc := 0) (i := 0) (j := 0) dX10_image_0 rfl rfl ?_
  refine z_ogetR (pc := 1) dX10_image_1 lf_RX10_21 sh_0 rfl rfl rfl ?_
  obtain ⟨q1, hq1, hf⟩ := Option.bind_eq_some_iff.mp hf
  refine z_oVi (pc := 4) (as := []) (rest := []) dX10_image_4 lm_RX10_244 mf_X4_keepImage mi_X4_keepImage mv_X4_keepImage rc_6 rfl rfl (Nat.le_of_ble_eq_true rfl) (c_X4_keepImage e (by omega) m hq1) ?_
  obtain rfl := Option.some.inj hf
  rw [h0 _ hK]
  exact z_iret dX10_image_7 rfl rfl
set_option maxHeartbeats 4000000 in
set_option maxRecDepth 100000 in
theorem c_X10_image (d : Nat) (hd : 3 ≤ d)  (m : ej_M) {q : (Int32 × ej_M)} (hf : f_X10_image  m = some q) : ej_Ct yX10_image cX10_image 1 (some .int) d [.ref 0] (ej_sh, m) ((some (Value.int q.1), (ej_sh, q.2)) : Option Value × ej_H) := by
  obtain ⟨e, rfl⟩ : ∃ e, d = e + 1 := ⟨d - 1, by omega⟩
  exact z_met (by decide +kernel) (Nat.le_of_ble_eq_true rfl) (b_X10_image e (by omega)  m (K := fun z => ((some (Value.int q.1), (ej_sh, q.2)) : Option Value × ej_H) = (some (Value.int z.1), (ej_sh, z.2))) hf rfl (fun _ h => h))
def f_X11_image_L31b (v1 : Int32) (m : ej_M) : Option ((Int32 × ej_M) ⊕ (Int32 × ej_M)) :=
  if (m.1 41 4) ≤ v1 then
    some (Sum.inr ((m.1 41 4), m))
  else
    (oj_ld 0 m 43 v1).bind fun w1 =>
    (oj_st 0 m 63 v1 w1).bind fun m2 =>
    some (Sum.inl ((v1 + 1), m2))
set_option maxHeartbeats 4000000 in
set_option maxRecDepth 100000 in
theorem b_X11_image_L31b (d : Nat) (v1 : Int32) (m : ej_M) {x : ((Int32 × ej_M) ⊕ (Int32 × ej_M))} {res : Option Value × ej_H} {K : ((Int32 × ej_M) ⊕ (Int32 × ej_M)) → Prop} (hf : f_X11_image_L31b v1 m = some x) (hK : K x) (h1 : ∀ q : (Int32 × ej_M), K (Sum.inl q) → ej_Z cX11_image 2 (some .int) RX11 "image" d 31 [(0, .ref 41), (1, .int q.1)] [] (ej_sh, q.2) res) (h0 : ∀ q : (Int32 × ej_M), K (Sum.inr q) → res = (some (Value.int q.1), (ej_sh, q.2))) : ej_Z cX11_image 2 (some .int) RX11 "image" d 31 [(0, .ref 41), (1, .int v1)] [] (ej_sh, m) res := by
  unfold f_X11_image_L31b at hf
  refine z_iload_n (pc := 31) (i := 1) (j := 1) dX11_image_31 rfl rfl ?_
  refine z_aload_n (pc := 32) (i := 0) (j := 0) dX11_image_32 rfl rfl ?_
  refine z_ogetI (pc := 33) dX11_image_33 lf_RX11_108 sh_41 rfl rfl ?_
  refine z_icmp_ge (pc := 36) (tgt := 57) dX11_image_36 (by decide) (fun hc => ?_) (fun hc => ?_)
  · rw [if_pos hc] at hf
    refine z_aload_n (pc := 57) (i := 0) (j := 0) dX11_image_57 rfl rfl ?_
    refine z_ogetI (pc := 58) dX11_image_58 lf_RX11_108 sh_41 rfl rfl ?_
    obtain rfl := Option.some.inj hf
    rw [h0 _ hK]
    exact z_iret dX11_image_61 rfl rfl
  · rw [if_neg hc] at hf
    refine z_aload_n (pc := 39) (i := 0) (j := 0) dX11_image_39 rfl rfl ?_
    refine z_ogetR (pc := 40) dX11_image_40 lf_RX11_75 sh_41 rfl rfl rfl ?_
    refine z_iload_n (pc := 43) (i := 1) (j := 1) dX11_image_43 rfl rfl ?_
    refine z_aload_n (pc := 44) (i := 0) (j := 0) dX11_image_44 rfl rfl ?_
    refine z_ogetR (pc := 45) dX11_image_45 lf_RX11_13 sh_41 rfl rfl rfl ?_
    refine z_iload_n (pc := 48) (i := 1) (j := 1) dX11_image_48 rfl rfl ?_
    obtain ⟨w1, hw1, hf⟩ := Option.bind_eq_some_iff.mp hf
    refine z_oiald (pc := 49) dX11_image_49 hw1 ?_
    obtain ⟨m2, hm2, hf⟩ := Option.bind_eq_some_iff.mp hf
    refine z_oiast (pc := 50) dX11_image_50 hm2 ?_
    refine z_iinc (pc := 51) (j := 1) (ls' := [(1, .int (v1 + 1)), (0, .ref 41)]) dX11_image_51 rfl ki_1 (Nat.le_of_ble_eq_true rfl) rfl ?_
    refine z_goto (pc := 54) (tgt := 31) dX11_image_54 (by decide) ?_
    obtain rfl := Option.some.inj hf
    exact z_pick (ls' := [(0, .ref 41), (1, .int (v1 + 1))]) [1, 0] rfl (h1 ((v1 + 1), m2) hK)
def f_X11_image_L31 (v1 : Int32) (m : ej_M) : Option (Int32 × ej_M) := oj_loop (fun q : (Int32 × ej_M) => f_X11_image_L31b q.1 q.2) oj_FU (v1, m)
set_option maxHeartbeats 4000000 in
set_option maxRecDepth 100000 in
theorem b_X11_image_L31 (d : Nat) (v1 : Int32) (m : ej_M) {x : (Int32 × ej_M)} {res : Option Value × ej_H} {K : (Int32 × ej_M) → Prop} (hf : f_X11_image_L31 v1 m = some x) (hK : K x) (h0 : ∀ q : (Int32 × ej_M), K q → res = (some (Value.int q.1), (ej_sh, q.2))) : ej_Z cX11_image 2 (some .int) RX11 "image" d 31 [(0, .ref 41), (1, .int v1)] [] (ej_sh, m) res :=
  oj_loop_Z (body := fun q : (Int32 × ej_M) => f_X11_image_L31b q.1 q.2) (P := fun q : (Int32 × ej_M) => ej_Z cX11_image 2 (some .int) RX11 "image" d 31 [(0, .ref 41), (1, .int q.1)] [] (ej_sh, q.2) res) (K := K) (fun s x hb hl hr => b_X11_image_L31b d  s.1 s.2 (K := fun x => (∀ s' : (Int32 × ej_M), x = Sum.inl s' → ej_Z cX11_image 2 (some .int) RX11 "image" d 31 [(0, .ref 41), (1, .int s'.1)] [] (ej_sh, s'.2) res) ∧ ∀ e, x = Sum.inr e → K e) hb ⟨hl, hr⟩ (fun q hq => hq.1 q rfl) (fun q hq => h0 q (hq.2 _ rfl))) oj_FU (v1, m) x hf hK
def f_X11_image  (m : ej_M) : Option (Int32 × ej_M) :=
  (oj_pz m 41 38 1).bind fun m1 =>
  (oj_pf m1 41 39 (m1.1 41 4)).bind fun m2 =>
  (oj_pf m2 41 40 (m2.1 41 6)).bind fun m3 =>
  (oj_pf m3 41 41 (m3.1 41 7)).bind fun m4 =>
  f_X11_image_L31 0 m4
set_option maxHeartbeats 4000000 in
set_option maxRecDepth 100000 in
theorem b_X11_image (d : Nat)  (m : ej_M) {x : (Int32 × ej_M)} {res : Option Value × ej_H} {K : (Int32 × ej_M) → Prop} (hf : f_X11_image  m = some x) (hK : K x) (h0 : ∀ q : (Int32 × ej_M), K q → res = (some (Value.int q.1), (ej_sh, q.2))) : ej_Z cX11_image 2 (some .int) RX11 "image" d 0 [(0, .ref 41)] [] (ej_sh, m) res := by
  unfold f_X11_image at hf
  refine z_aload_n (pc := 0) (i := 0) (j := 0) dX11_image_0 rfl rfl ?_
  refine z_iconst (pc := 1) dX11_image_1 ki_1 ?_
  obtain ⟨m1, hm1, hf⟩ := Option.bind_eq_some_iff.mp hf
  refine z_oputZ (pc := 2) dX11_image_2 lf_RX11_326 sh_41 rfl hm1 ?_
  refine z_aload_n (pc := 5) (i := 0) (j := 0) dX11_image_5 rfl rfl ?_
  refine z_aload_n (pc := 6) (i := 0) (j := 0) dX11_image_6 rfl rfl ?_
  refine z_ogetI (pc := 7) dX11_image_7 lf_RX11_108 sh_41 rfl rfl ?_
  obtain ⟨m2, hm2, hf⟩ := Option.bind_eq_some_iff.mp hf
  refine z_oputI (pc := 10) dX11_image_10 lf_RX11_329 sh_41 rfl hm2 ?_
  refine z_aload_n (pc := 13) (i := 0) (j := 0) dX11_image_13 rfl rfl ?_
  refine z_aload_n (pc := 14) (i := 0) (j := 0) dX11_image_14 rfl rfl ?_
  refine z_ogetI (pc := 15) dX11_image_15 lf_RX11_242 sh_41 rfl rfl ?_
  obtain ⟨m3, hm3, hf⟩ := Option.bind_eq_some_iff.mp hf
  refine z_oputI (pc := 18) dX11_image_18 lf_RX11_332 sh_41 rfl hm3 ?_
  refine z_aload_n (pc := 21) (i := 0) (j := 0) dX11_image_21 rfl rfl ?_
  refine z_aload_n (pc := 22) (i := 0) (j := 0) dX11_image_22 rfl rfl ?_
  refine z_ogetI (pc := 23) dX11_image_23 lf_RX11_245 sh_41 rfl rfl ?_
  obtain ⟨m4, hm4, hf⟩ := Option.bind_eq_some_iff.mp hf
  refine z_oputI (pc := 26) dX11_image_26 lf_RX11_335 sh_41 rfl hm4 ?_
  refine z_iconst (pc := 29) dX11_image_29 ki_0 ?_
  refine z_istore_n (pc := 30) (i := 1) (ls' := [(1, .int 0), (0, .ref 41)]) dX11_image_30 rfl (Nat.le_of_ble_eq_true rfl) rfl ?_
  exact z_pick [1, 0] rfl (b_X11_image_L31 d 0 m4 (K := K) hf hK  h0)
set_option maxHeartbeats 4000000 in
set_option maxRecDepth 100000 in
theorem c_X11_image (d : Nat) (hd : 0 ≤ d)  (m : ej_M) {q : (Int32 × ej_M)} (hf : f_X11_image  m = some q) : ej_Ct yX11_image cX11_image 2 (some .int) d [.ref 41] (ej_sh, m) ((some (Value.int q.1), (ej_sh, q.2)) : Option Value × ej_H) := by
  exact z_met (by decide +kernel) (Nat.le_of_ble_eq_true rfl) (b_X11_image d  m (K := fun z => ((some (Value.int q.1), (ej_sh, q.2)) : Option Value × ej_H) = (some (Value.int z.1), (ej_sh, z.2))) hf rfl (fun _ h => h))
def f_X4_layBack  (m : ej_M) : Option (Int32 × ej_M) :=
  if (m.1 6 8) = 0 then
    some ((-5), m)
  else
    (f_X10_copy 9 8 (m.1 6 10) m).bind fun q1 =>
    (oj_pf q1.2 6 4 (q1.2.1 6 10)).bind fun m2 =>
    (oj_pf m2 6 6 (m2.1 6 11)).bind fun m3 =>
    (oj_pf m3 6 7 (m3.1 6 12)).bind fun m4 =>
    some ((m4.1 6 4), m4)
set_option maxHeartbeats 4000000 in
set_option maxRecDepth 100000 in
theorem b_X4_layBack (e : Nat) (hd : 1 ≤ e)  (m : ej_M) {x : (Int32 × ej_M)} {res : Option Value × ej_H} {K : (Int32 × ej_M) → Prop} (hf : f_X4_layBack  m = some x) (hK : K x) (h0 : ∀ q : (Int32 × ej_M), K q → res = (some (Value.int q.1), (ej_sh, q.2))) : ej_Z cX4_layBack 1 (some .int) RX4 "layBack" (e + 1) 0 [(0, .ref 6)] [] (ej_sh, m) res := by
  unfold f_X4_layBack at hf
  refine z_aload_n (pc := 0) (i := 0) (j := 0) dX4_layBack_0 rfl rfl ?_
  refine z_ogetI (pc := 1) dX4_layBack_1 lf_RX4_115 sh_6 rfl rfl ?_
  refine z_if_ne (pc := 4) (tgt := 10) dX4_layBack_4 (by decide) (fun hc => ?_) (fun hc => ?_)
  · rw [if_neg hc] at hf
    refine z_aload_n (pc := 10) (i := 0) (j := 0) dX4_layBack_10 rfl rfl ?_
    refine z_ogetR (pc := 11) dX4_layBack_11 lf_RX4_18 sh_6 rfl rfl rfl ?_
    refine z_aload_n (pc := 14) (i := 0) (j := 0) dX4_layBack_14 rfl rfl ?_
    refine z_ogetR (pc := 15) dX4_layBack_15 lf_RX4_15 sh_6 rfl rfl rfl ?_
    refine z_aload_n (pc := 18) (i := 0) (j := 0) dX4_layBack_18 rfl rfl ?_
    refine z_ogetI (pc := 19) dX4_layBack_19 lf_RX4_106 sh_6 rfl rfl ?_
    obtain ⟨q1, hq1, hf⟩ := Option.bind_eq_some_iff.mp hf
    refine z_oSv (pc := 22) (as := [.ref 9, .ref 8, .int (m.1 6 10)]) (rest := []) dX4_layBack_22 lm_RX4_102 mf_X10_copy ms_X10_copy rfl rfl (Nat.le_of_ble_eq_true rfl) (c_X10_copy e (by omega) 9 8 (m.1 6 10) m hq1) ?_
    refine z_aload_n (pc := 25) (i := 0) (j := 0) dX4_layBack_25 rfl rfl ?_
    refine z_aload_n (pc := 26) (i := 0) (j := 0) dX4_layBack_26 rfl rfl ?_
    refine z_ogetI (pc := 27) dX4_layBack_27 lf_RX4_106 sh_6 rfl rfl ?_
    obtain ⟨m2, hm2, hf⟩ := Option.bind_eq_some_iff.mp hf
    refine z_oputI (pc := 30) dX4_layBack_30 lf_RX4_43 sh_6 rfl hm2 ?_
    refine z_aload_n (pc := 33) (i := 0) (j := 0) dX4_layBack_33 rfl rfl ?_
    refine z_aload_n (pc := 34) (i := 0) (j := 0) dX4_layBack_34 rfl rfl ?_
    refine z_ogetI (pc := 35) dX4_layBack_35 lf_RX4_109 sh_6 rfl rfl ?_
    obtain ⟨m3, hm3, hf⟩ := Option.bind_eq_some_iff.mp hf
    refine z_oputI (pc := 38) dX4_layBack_38 lf_RX4_92 sh_6 rfl hm3 ?_
    refine z_aload_n (pc := 41) (i := 0) (j := 0) dX4_layBack_41 rfl rfl ?_
    refine z_aload_n (pc := 42) (i := 0) (j := 0) dX4_layBack_42 rfl rfl ?_
    refine z_ogetI (pc := 43) dX4_layBack_43 lf_RX4_112 sh_6 rfl rfl ?_
    obtain ⟨m4, hm4, hf⟩ := Option.bind_eq_some_iff.mp hf
    refine z_oputI (pc := 46) dX4_layBack_46 lf_RX4_99 sh_6 rfl hm4 ?_
    refine z_aload_n (pc := 49) (i := 0) (j := 0) dX4_layBack_49 rfl rfl ?_
    refine z_ogetI (pc := 50) dX4_layBack_50 lf_RX4_43 sh_6 rfl rfl ?_
    obtain rfl := Option.some.inj hf
    rw [h0 _ hK]
    exact z_iret dX4_layBack_53 rfl rfl
  · rw [if_pos hc] at hf
    refine z_bipush (pc := 7) dX4_layBack_7 kb_n5 ?_
    obtain rfl := Option.some.inj hf
    rw [h0 _ hK]
    exact z_iret dX4_layBack_9 rfl rfl
set_option maxHeartbeats 4000000 in
set_option maxRecDepth 100000 in
theorem c_X4_layBack (d : Nat) (hd : 2 ≤ d)  (m : ej_M) {q : (Int32 × ej_M)} (hf : f_X4_layBack  m = some q) : ej_Ct yX4_layBack cX4_layBack 1 (some .int) d [.ref 6] (ej_sh, m) ((some (Value.int q.1), (ej_sh, q.2)) : Option Value × ej_H) := by
  obtain ⟨e, rfl⟩ : ∃ e, d = e + 1 := ⟨d - 1, by omega⟩
  exact z_met (by decide +kernel) (Nat.le_of_ble_eq_true rfl) (b_X4_layBack e (by omega)  m (K := fun z => ((some (Value.int q.1), (ej_sh, q.2)) : Option Value × ej_H) = (some (Value.int z.1), (ej_sh, z.2))) hf rfl (fun _ h => h))
def f_X10_back  (m : ej_M) : Option (Int32 × ej_M) :=
  (f_X4_layBack m).bind fun q1 =>
  some (q1.1, q1.2)
set_option maxHeartbeats 4000000 in
set_option maxRecDepth 100000 in
theorem b_X10_back (e : Nat) (hd : 2 ≤ e)  (m : ej_M) {x : (Int32 × ej_M)} {res : Option Value × ej_H} {K : (Int32 × ej_M) → Prop} (hf : f_X10_back  m = some x) (hK : K x) (h0 : ∀ q : (Int32 × ej_M), K q → res = (some (Value.int q.1), (ej_sh, q.2))) : ej_Z cX10_back 1 (some .int) RX10 "back" (e + 1) 0 [(0, .ref 0)] [] (ej_sh, m) res := by
  unfold f_X10_back at hf
  refine z_aload_n (pc := 0) (i := 0) (j := 0) dX10_back_0 rfl rfl ?_
  refine z_ogetR (pc := 1) dX10_back_1 lf_RX10_21 sh_0 rfl rfl rfl ?_
  obtain ⟨q1, hq1, hf⟩ := Option.bind_eq_some_iff.mp hf
  refine z_oVi (pc := 4) (as := []) (rest := []) dX10_back_4 lm_RX10_247 mf_X4_layBack mi_X4_layBack mv_X4_layBack rc_6 rfl rfl (Nat.le_of_ble_eq_true rfl) (c_X4_layBack e (by omega) m hq1) ?_
  obtain rfl := Option.some.inj hf
  rw [h0 _ hK]
  exact z_iret dX10_back_7 rfl rfl
set_option maxHeartbeats 4000000 in
set_option maxRecDepth 100000 in
theorem c_X10_back (d : Nat) (hd : 3 ≤ d)  (m : ej_M) {q : (Int32 × ej_M)} (hf : f_X10_back  m = some q) : ej_Ct yX10_back cX10_back 1 (some .int) d [.ref 0] (ej_sh, m) ((some (Value.int q.1), (ej_sh, q.2)) : Option Value × ej_H) := by
  obtain ⟨e, rfl⟩ : ∃ e, d = e + 1 := ⟨d - 1, by omega⟩
  exact z_met (by decide +kernel) (Nat.le_of_ble_eq_true rfl) (b_X10_back e (by omega)  m (K := fun z => ((some (Value.int q.1), (ej_sh, q.2)) : Option Value × ej_H) = (some (Value.int z.1), (ej_sh, z.2))) hf rfl (fun _ h => h))
def f_X11_back_L36b (v1 : Int32) (m : ej_M) : Option ((Int32 × ej_M) ⊕ (Int32 × ej_M)) :=
  if (m.1 41 4) ≤ v1 then
    some (Sum.inr ((m.1 41 4), m))
  else
    (oj_ld 0 m 63 v1).bind fun w1 =>
    (oj_st 0 m 43 v1 w1).bind fun m2 =>
    some (Sum.inl ((v1 + 1), m2))
set_option maxHeartbeats 4000000 in
set_option maxRecDepth 100000 in
theorem b_X11_back_L36b (d : Nat) (v1 : Int32) (m : ej_M) {x : ((Int32 × ej_M) ⊕ (Int32 × ej_M))} {res : Option Value × ej_H} {K : ((Int32 × ej_M) ⊕ (Int32 × ej_M)) → Prop} (hf : f_X11_back_L36b v1 m = some x) (hK : K x) (h1 : ∀ q : (Int32 × ej_M), K (Sum.inl q) → ej_Z cX11_back 2 (some .int) RX11 "back" d 36 [(0, .ref 41), (1, .int q.1)] [] (ej_sh, q.2) res) (h0 : ∀ q : (Int32 × ej_M), K (Sum.inr q) → res = (some (Value.int q.1), (ej_sh, q.2))) : ej_Z cX11_back 2 (some .int) RX11 "back" d 36 [(0, .ref 41), (1, .int v1)] [] (ej_sh, m) res := by
  unfold f_X11_back_L36b at hf
  refine z_iload_n (pc := 36) (i := 1) (j := 1) dX11_back_36 rfl rfl ?_
  refine z_aload_n (pc := 37) (i := 0) (j := 0) dX11_back_37 rfl rfl ?_
  refine z_ogetI (pc := 38) dX11_back_38 lf_RX11_108 sh_41 rfl rfl ?_
  refine z_icmp_ge (pc := 41) (tgt := 62) dX11_back_41 (by decide) (fun hc => ?_) (fun hc => ?_)
  · rw [if_pos hc] at hf
    refine z_aload_n (pc := 62) (i := 0) (j := 0) dX11_back_62 rfl rfl ?_
    refine z_ogetI (pc := 63) dX11_back_63 lf_RX11_108 sh_41 rfl rfl ?_
    obtain rfl := Option.some.inj hf
    rw [h0 _ hK]
    exact z_iret dX11_back_66 rfl rfl
  · rw [if_neg hc] at hf
    refine z_aload_n (pc := 44) (i := 0) (j := 0) dX11_back_44 rfl rfl ?_
    refine z_ogetR (pc := 45) dX11_back_45 lf_RX11_13 sh_41 rfl rfl rfl ?_
    refine z_iload_n (pc := 48) (i := 1) (j := 1) dX11_back_48 rfl rfl ?_
    refine z_aload_n (pc := 49) (i := 0) (j := 0) dX11_back_49 rfl rfl ?_
    refine z_ogetR (pc := 50) dX11_back_50 lf_RX11_75 sh_41 rfl rfl rfl ?_
    refine z_iload_n (pc := 53) (i := 1) (j := 1) dX11_back_53 rfl rfl ?_
    obtain ⟨w1, hw1, hf⟩ := Option.bind_eq_some_iff.mp hf
    refine z_oiald (pc := 54) dX11_back_54 hw1 ?_
    obtain ⟨m2, hm2, hf⟩ := Option.bind_eq_some_iff.mp hf
    refine z_oiast (pc := 55) dX11_back_55 hm2 ?_
    refine z_iinc (pc := 56) (j := 1) (ls' := [(1, .int (v1 + 1)), (0, .ref 41)]) dX11_back_56 rfl ki_1 (Nat.le_of_ble_eq_true rfl) rfl ?_
    refine z_goto (pc := 59) (tgt := 36) dX11_back_59 (by decide) ?_
    obtain rfl := Option.some.inj hf
    exact z_pick (ls' := [(0, .ref 41), (1, .int (v1 + 1))]) [1, 0] rfl (h1 ((v1 + 1), m2) hK)
def f_X11_back_L36 (v1 : Int32) (m : ej_M) : Option (Int32 × ej_M) := oj_loop (fun q : (Int32 × ej_M) => f_X11_back_L36b q.1 q.2) oj_FU (v1, m)
set_option maxHeartbeats 4000000 in
set_option maxRecDepth 100000 in
theorem b_X11_back_L36 (d : Nat) (v1 : Int32) (m : ej_M) {x : (Int32 × ej_M)} {res : Option Value × ej_H} {K : (Int32 × ej_M) → Prop} (hf : f_X11_back_L36 v1 m = some x) (hK : K x) (h0 : ∀ q : (Int32 × ej_M), K q → res = (some (Value.int q.1), (ej_sh, q.2))) : ej_Z cX11_back 2 (some .int) RX11 "back" d 36 [(0, .ref 41), (1, .int v1)] [] (ej_sh, m) res :=
  oj_loop_Z (body := fun q : (Int32 × ej_M) => f_X11_back_L36b q.1 q.2) (P := fun q : (Int32 × ej_M) => ej_Z cX11_back 2 (some .int) RX11 "back" d 36 [(0, .ref 41), (1, .int q.1)] [] (ej_sh, q.2) res) (K := K) (fun s x hb hl hr => b_X11_back_L36b d  s.1 s.2 (K := fun x => (∀ s' : (Int32 × ej_M), x = Sum.inl s' → ej_Z cX11_back 2 (some .int) RX11 "back" d 36 [(0, .ref 41), (1, .int s'.1)] [] (ej_sh, s'.2) res) ∧ ∀ e, x = Sum.inr e → K e) hb ⟨hl, hr⟩ (fun q hq => hq.1 q rfl) (fun q hq => h0 q (hq.2 _ rfl))) oj_FU (v1, m) x hf hK
def f_X11_back  (m : ej_M) : Option (Int32 × ej_M) :=
  if (m.1 41 38) = 0 then
    some ((-5), m)
  else
    (oj_pf m 41 4 (m.1 41 39)).bind fun m1 =>
    (oj_pf m1 41 6 (m1.1 41 40)).bind fun m2 =>
    (oj_pf m2 41 7 (m2.1 41 41)).bind fun m3 =>
    f_X11_back_L36 0 m3
set_option maxHeartbeats 4000000 in
set_option maxRecDepth 100000 in
theorem b_X11_back (d : Nat)  (m : ej_M) {x : (Int32 × ej_M)} {res : Option Value × ej_H} {K : (Int32 × ej_M) → Prop} (hf : f_X11_back  m = some x) (hK : K x) (h0 : ∀ q : (Int32 × ej_M), K q → res = (some (Value.int q.1), (ej_sh, q.2))) : ej_Z cX11_back 2 (some .int) RX11 "back" d 0 [(0, .ref 41)] [] (ej_sh, m) res := by
  unfold f_X11_back at hf
  refine z_aload_n (pc := 0) (i := 0) (j := 0) dX11_back_0 rfl rfl ?_
  refine z_ogetI (pc := 1) dX11_back_1 lf_RX11_326 sh_41 rfl rfl ?_
  refine z_if_ne (pc := 4) (tgt := 10) dX11_back_4 (by decide) (fun hc => ?_) (fun hc => ?_)
  · rw [if_neg hc] at hf
    refine z_aload_n (pc := 10) (i := 0) (j := 0) dX11_back_10 rfl rfl ?_
    refine z_aload_n (pc := 11) (i := 0) (j := 0) dX11_back_11 rfl rfl ?_
    refine z_ogetI (pc := 12) dX11_back_12 lf_RX11_329 sh_41 rfl rfl ?_
    obtain ⟨m1, hm1, hf⟩ := Option.bind_eq_some_iff.mp hf
    refine z_oputI (pc := 15) dX11_back_15 lf_RX11_108 sh_41 rfl hm1 ?_
    refine z_aload_n (pc := 18) (i := 0) (j := 0) dX11_back_18 rfl rfl ?_
    refine z_aload_n (pc := 19) (i := 0) (j := 0) dX11_back_19 rfl rfl ?_
    refine z_ogetI (pc := 20) dX11_back_20 lf_RX11_332 sh_41 rfl rfl ?_
    obtain ⟨m2, hm2, hf⟩ := Option.bind_eq_some_iff.mp hf
    refine z_oputI (pc := 23) dX11_back_23 lf_RX11_242 sh_41 rfl hm2 ?_
    refine z_aload_n (pc := 26) (i := 0) (j := 0) dX11_back_26 rfl rfl ?_
    refine z_aload_n (pc := 27) (i := 0) (j := 0) dX11_back_27 rfl rfl ?_
    refine z_ogetI (pc := 28) dX11_back_28 lf_RX11_335 sh_41 rfl rfl ?_
    obtain ⟨m3, hm3, hf⟩ := Option.bind_eq_some_iff.mp hf
    refine z_oputI (pc := 31) dX11_back_31 lf_RX11_245 sh_41 rfl hm3 ?_
    refine z_iconst (pc := 34) dX11_back_34 ki_0 ?_
    refine z_istore_n (pc := 35) (i := 1) (ls' := [(1, .int 0), (0, .ref 41)]) dX11_back_35 rfl (Nat.le_of_ble_eq_true rfl) rfl ?_
    exact z_pick [1, 0] rfl (b_X11_back_L36 d 0 m3 (K := K) hf hK  h0)
  · rw [if_pos hc] at hf
    refine z_bipush (pc := 7) dX11_back_7 kb_n5 ?_
    obtain rfl := Option.some.inj hf
    rw [h0 _ hK]
    exact z_iret dX11_back_9 rfl rfl
set_option maxHeartbeats 4000000 in
set_option maxRecDepth 100000 in
theorem c_X11_back (d : Nat) (hd : 0 ≤ d)  (m : ej_M) {q : (Int32 × ej_M)} (hf : f_X11_back  m = some q) : ej_Ct yX11_back cX11_back 2 (some .int) d [.ref 41] (ej_sh, m) ((some (Value.int q.1), (ej_sh, q.2)) : Option Value × ej_H) := by
  exact z_met (by decide +kernel) (Nat.le_of_ble_eq_true rfl) (b_X11_back d  m (K := fun z => ((some (Value.int q.1), (ej_sh, q.2)) : Option Value × ej_H) = (some (Value.int z.1), (ej_sh, z.2))) hf rfl (fun _ h => h))
def f_X1_undoLatest  (m : ej_M) : Option (Int32 × ej_M) :=
  if (m.1 11 4) = 0 then
    some ((-5), m)
  else
    (oj_pf m 11 4 ((m.1 11 4) - 1)).bind fun m1 =>
    (f_X10_at 12 (m1.1 11 4) m1).bind fun q2 =>
    (f_X10_at 13 (q2.2.1 11 4) q2.2).bind fun q3 =>
    (f_X1_become q2.1 q3.1 q3.2).bind fun q4 =>
    some ((q4.2.1 11 4), q4.2)
set_option maxHeartbeats 4000000 in
set_option maxRecDepth 100000 in
theorem b_X1_undoLatest (e : Nat) (hd : 2 ≤ e)  (m : ej_M) {x : (Int32 × ej_M)} {res : Option Value × ej_H} {K : (Int32 × ej_M) → Prop} (hf : f_X1_undoLatest  m = some x) (hK : K x) (h0 : ∀ q : (Int32 × ej_M), K q → res = (some (Value.int q.1), (ej_sh, q.2))) : ej_Z cX1_undoLatest 1 (some .int) RX1 "undoLatest" (e + 1) 0 [(0, .ref 11)] [] (ej_sh, m) res := by
  unfold f_X1_undoLatest at hf
  refine z_aload_n (pc := 0) (i := 0) (j := 0) dX1_undoLatest_0 rfl rfl ?_
  refine z_ogetI (pc := 1) dX1_undoLatest_1 lf_RX1_35 sh_11 rfl rfl ?_
  refine z_if_ne (pc := 4) (tgt := 10) dX1_undoLatest_4 (by decide) (fun hc => ?_) (fun hc => ?_)
  · rw [if_neg hc] at hf
    refine z_aload_n (pc := 10) (i := 0) (j := 0) dX1_undoLatest_10 rfl rfl ?_
    refine z_dup (pc := 11) dX1_undoLatest_11 rfl ?_
    refine z_ogetI (pc := 12) dX1_undoLatest_12 lf_RX1_35 sh_11 rfl rfl ?_
    refine z_iconst (pc := 15) dX1_undoLatest_15 ki_1 ?_
    refine z_isub (pc := 16) dX1_undoLatest_16 ?_
    obtain ⟨m1, hm1, hf⟩ := Option.bind_eq_some_iff.mp hf
    refine z_oputI (pc := 17) dX1_undoLatest_17 lf_RX1_35 sh_11 rfl hm1 ?_
    refine z_aload_n (pc := 20) (i := 0) (j := 0) dX1_undoLatest_20 rfl rfl ?_
    refine z_aload_n (pc := 21) (i := 0) (j := 0) dX1_undoLatest_21 rfl rfl ?_
    refine z_ogetR (pc := 22) dX1_undoLatest_22 lf_RX1_11 sh_11 rfl rfl rfl ?_
    refine z_aload_n (pc := 25) (i := 0) (j := 0) dX1_undoLatest_25 rfl rfl ?_
    refine z_ogetI (pc := 26) dX1_undoLatest_26 lf_RX1_35 sh_11 rfl rfl ?_
    obtain ⟨q2, hq2, hf⟩ := Option.bind_eq_some_iff.mp hf
    refine z_oSi (pc := 29) (as := [.ref 12, .int (m1.1 11 4)]) (rest := [.ref 11]) dX1_undoLatest_29 lm_RX1_58 mf_X10_at ms_X10_at rfl rfl (Nat.le_of_ble_eq_true rfl) (c_X10_at e (by omega) 12 (m1.1 11 4) m1 hq2) ?_
    refine z_aload_n (pc := 32) (i := 0) (j := 0) dX1_undoLatest_32 rfl rfl ?_
    refine z_ogetR (pc := 33) dX1_undoLatest_33 lf_RX1_15 sh_11 rfl rfl rfl ?_
    refine z_aload_n (pc := 36) (i := 0) (j := 0) dX1_undoLatest_36 rfl rfl ?_
    refine z_ogetI (pc := 37) dX1_undoLatest_37 lf_RX1_35 sh_11 rfl rfl ?_
    obtain ⟨q3, hq3, hf⟩ := Option.bind_eq_some_iff.mp hf
    refine z_oSi (pc := 40) (as := [.ref 13, .int (q2.2.1 11 4)]) (rest := [.int q2.1, .ref 11]) dX1_undoLatest_40 lm_RX1_58 mf_X10_at ms_X10_at rfl rfl (Nat.le_of_ble_eq_true rfl) (c_X10_at e (by omega) 13 (q2.2.1 11 4) q2.2 hq3) ?_
    obtain ⟨q4, hq4, hf⟩ := Option.bind_eq_some_iff.mp hf
    refine z_oVv (pc := 43) (as := [.int q2.1, .int q3.1]) (rest := []) dX1_undoLatest_43 lm_RX1_48 mf_X1_become mi_X1_become mv_X1_become rc_11 rfl rfl (Nat.le_of_ble_eq_true rfl) (c_X1_become e (by omega) q2.1 q3.1 q3.2 hq4) ?_
    refine z_aload_n (pc := 46) (i := 0) (j := 0) dX1_undoLatest_46 rfl rfl ?_
    refine z_ogetI (pc := 47) dX1_undoLatest_47 lf_RX1_35 sh_11 rfl rfl ?_
    obtain rfl := Option.some.inj hf
    rw [h0 _ hK]
    exact z_iret dX1_undoLatest_50 rfl rfl
  · rw [if_pos hc] at hf
    refine z_bipush (pc := 7) dX1_undoLatest_7 kb_n5 ?_
    obtain rfl := Option.some.inj hf
    rw [h0 _ hK]
    exact z_iret dX1_undoLatest_9 rfl rfl
set_option maxHeartbeats 4000000 in
set_option maxRecDepth 100000 in
theorem c_X1_undoLatest (d : Nat) (hd : 3 ≤ d)  (m : ej_M) {q : (Int32 × ej_M)} (hf : f_X1_undoLatest  m = some q) : ej_Ct yX1_undoLatest cX1_undoLatest 1 (some .int) d [.ref 11] (ej_sh, m) ((some (Value.int q.1), (ej_sh, q.2)) : Option Value × ej_H) := by
  obtain ⟨e, rfl⟩ : ∃ e, d = e + 1 := ⟨d - 1, by omega⟩
  exact z_met (by decide +kernel) (Nat.le_of_ble_eq_true rfl) (b_X1_undoLatest e (by omega)  m (K := fun z => ((some (Value.int q.1), (ej_sh, q.2)) : Option Value × ej_H) = (some (Value.int z.1), (ej_sh, z.2))) hf rfl (fun _ h => h))
def f_X10_undo  (m : ej_M) : Option (Int32 × ej_M) :=
  (f_X1_undoLatest m).bind fun q1 =>
  some (q1.1, q1.2)
set_option maxHeartbeats 4000000 in
set_option maxRecDepth 100000 in
theorem b_X10_undo (e : Nat) (hd : 3 ≤ e)  (m : ej_M) {x : (Int32 × ej_M)} {res : Option Value × ej_H} {K : (Int32 × ej_M) → Prop} (hf : f_X10_undo  m = some x) (hK : K x) (h0 : ∀ q : (Int32 × ej_M), K q → res = (some (Value.int q.1), (ej_sh, q.2))) : ej_Z cX10_undo 1 (some .int) RX10 "undo" (e + 1) 0 [(0, .ref 0)] [] (ej_sh, m) res := by
  unfold f_X10_undo at hf
  refine z_aload_n (pc := 0) (i := 0) (j := 0) dX10_undo_0 rfl rfl ?_
  refine z_ogetR (pc := 1) dX10_undo_1 lf_RX10_30 sh_0 rfl rfl rfl ?_
  obtain ⟨q1, hq1, hf⟩ := Option.bind_eq_some_iff.mp hf
  refine z_oVi (pc := 4) (as := []) (rest := []) dX10_undo_4 lm_RX10_250 mf_X1_undoLatest mi_X1_undoLatest mv_X1_undoLatest rc_11 rfl rfl (Nat.le_of_ble_eq_true rfl) (c_X1_undoLatest e (by omega) m hq1) ?_
  obtain rfl := Option.some.inj hf
  rw [h0 _ hK]
  exact z_iret dX10_undo_7 rfl rfl
set_option maxHeartbeats 4000000 in
set_option maxRecDepth 100000 in
theorem c_X10_undo (d : Nat) (hd : 4 ≤ d)  (m : ej_M) {q : (Int32 × ej_M)} (hf : f_X10_undo  m = some q) : ej_Ct yX10_undo cX10_undo 1 (some .int) d [.ref 0] (ej_sh, m) ((some (Value.int q.1), (ej_sh, q.2)) : Option Value × ej_H) := by
  obtain ⟨e, rfl⟩ : ∃ e, d = e + 1 := ⟨d - 1, by omega⟩
  exact z_met (by decide +kernel) (Nat.le_of_ble_eq_true rfl) (b_X10_undo e (by omega)  m (K := fun z => ((some (Value.int q.1), (ej_sh, q.2)) : Option Value × ej_H) = (some (Value.int z.1), (ej_sh, z.2))) hf rfl (fun _ h => h))
def f_X11_undo  (m : ej_M) : Option (Int32 × ej_M) :=
  if (m.1 41 8) = 0 then
    some ((-5), m)
  else
    (oj_pf m 41 8 ((m.1 41 8) - 1)).bind fun m1 =>
    (oj_pf m1 41 9 ((m1.1 41 9) + 1)).bind fun m2 =>
    (oj_ld 0 m2 44 (m2.1 41 8)).bind fun w3 =>
    (oj_ld 0 m2 45 (m2.1 41 8)).bind fun w4 =>
    (oj_ld 0 m2 46 (m2.1 41 8)).bind fun w5 =>
    (f_X11_lays w3 w4 w5 m2).bind fun q6 =>
    some ((q6.2.1 41 8), q6.2)
set_option maxHeartbeats 4000000 in
set_option maxRecDepth 100000 in
theorem b_X11_undo (e : Nat) (hd : 0 ≤ e)  (m : ej_M) {x : (Int32 × ej_M)} {res : Option Value × ej_H} {K : (Int32 × ej_M) → Prop} (hf : f_X11_undo  m = some x) (hK : K x) (h0 : ∀ q : (Int32 × ej_M), K q → res = (some (Value.int q.1), (ej_sh, q.2))) : ej_Z cX11_undo 1 (some .int) RX11 "undo" (e + 1) 0 [(0, .ref 41)] [] (ej_sh, m) res := by
  unfold f_X11_undo at hf
  refine z_aload_n (pc := 0) (i := 0) (j := 0) dX11_undo_0 rfl rfl ?_
  refine z_ogetI (pc := 1) dX11_undo_1 lf_RX11_129 sh_41 rfl rfl ?_
  refine z_if_ne (pc := 4) (tgt := 10) dX11_undo_4 (by decide) (fun hc => ?_) (fun hc => ?_)
  · rw [if_neg hc] at hf
    refine z_aload_n (pc := 10) (i := 0) (j := 0) dX11_undo_10 rfl rfl ?_
    refine z_dup (pc := 11) dX11_undo_11 rfl ?_
    refine z_ogetI (pc := 12) dX11_undo_12 lf_RX11_129 sh_41 rfl rfl ?_
    refine z_iconst (pc := 15) dX11_undo_15 ki_1 ?_
    refine z_isub (pc := 16) dX11_undo_16 ?_
    obtain ⟨m1, hm1, hf⟩ := Option.bind_eq_some_iff.mp hf
    refine z_oputI (pc := 17) dX11_undo_17 lf_RX11_129 sh_41 rfl hm1 ?_
    refine z_aload_n (pc := 20) (i := 0) (j := 0) dX11_undo_20 rfl rfl ?_
    refine z_dup (pc := 21) dX11_undo_21 rfl ?_
    refine z_ogetI (pc := 22) dX11_undo_22 lf_RX11_126 sh_41 rfl rfl ?_
    refine z_iconst (pc := 25) dX11_undo_25 ki_1 ?_
    refine z_iadd (pc := 26) dX11_undo_26 ?_
    obtain ⟨m2, hm2, hf⟩ := Option.bind_eq_some_iff.mp hf
    refine z_oputI (pc := 27) dX11_undo_27 lf_RX11_126 sh_41 rfl hm2 ?_
    refine z_aload_n (pc := 30) (i := 0) (j := 0) dX11_undo_30 rfl rfl ?_
    refine z_aload_n (pc := 31) (i := 0) (j := 0) dX11_undo_31 rfl rfl ?_
    refine z_ogetR (pc := 32) dX11_undo_32 lf_RX11_16 sh_41 rfl rfl rfl ?_
    refine z_aload_n (pc := 35) (i := 0) (j := 0) dX11_undo_35 rfl rfl ?_
    refine z_ogetI (pc := 36) dX11_undo_36 lf_RX11_129 sh_41 rfl rfl ?_
    obtain ⟨w3, hw3, hf⟩ := Option.bind_eq_some_iff.mp hf
    refine z_oiald (pc := 39) dX11_undo_39 hw3 ?_
    refine z_aload_n (pc := 40) (i := 0) (j := 0) dX11_undo_40 rfl rfl ?_
    refine z_ogetR (pc := 41) dX11_undo_41 lf_RX11_19 sh_41 rfl rfl rfl ?_
    refine z_aload_n (pc := 44) (i := 0) (j := 0) dX11_undo_44 rfl rfl ?_
    refine z_ogetI (pc := 45) dX11_undo_45 lf_RX11_129 sh_41 rfl rfl ?_
    obtain ⟨w4, hw4, hf⟩ := Option.bind_eq_some_iff.mp hf
    refine z_oiald (pc := 48) dX11_undo_48 hw4 ?_
    refine z_aload_n (pc := 49) (i := 0) (j := 0) dX11_undo_49 rfl rfl ?_
    refine z_ogetR (pc := 50) dX11_undo_50 lf_RX11_22 sh_41 rfl rfl rfl ?_
    refine z_aload_n (pc := 53) (i := 0) (j := 0) dX11_undo_53 rfl rfl ?_
    refine z_ogetI (pc := 54) dX11_undo_54 lf_RX11_129 sh_41 rfl rfl ?_
    obtain ⟨w5, hw5, hf⟩ := Option.bind_eq_some_iff.mp hf
    refine z_oiald (pc := 57) dX11_undo_57 hw5 ?_
    obtain ⟨q6, hq6, hf⟩ := Option.bind_eq_some_iff.mp hf
    refine z_oVv (pc := 58) (as := [.int w3, .int w4, .int w5]) (rest := []) dX11_undo_58 lm_RX11_132 mf_X11_lays mi_X11_lays mv_X11_lays rc_41 rfl rfl (Nat.le_of_ble_eq_true rfl) (c_X11_lays e (by omega) w3 w4 w5 m2 hq6) ?_
    refine z_aload_n (pc := 61) (i := 0) (j := 0) dX11_undo_61 rfl rfl ?_
    refine z_ogetI (pc := 62) dX11_undo_62 lf_RX11_129 sh_41 rfl rfl ?_
    obtain rfl := Option.some.inj hf
    rw [h0 _ hK]
    exact z_iret dX11_undo_65 rfl rfl
  · rw [if_pos hc] at hf
    refine z_bipush (pc := 7) dX11_undo_7 kb_n5 ?_
    obtain rfl := Option.some.inj hf
    rw [h0 _ hK]
    exact z_iret dX11_undo_9 rfl rfl
set_option maxHeartbeats 4000000 in
set_option maxRecDepth 100000 in
theorem c_X11_undo (d : Nat) (hd : 1 ≤ d)  (m : ej_M) {q : (Int32 × ej_M)} (hf : f_X11_undo  m = some q) : ej_Ct yX11_undo cX11_undo 1 (some .int) d [.ref 41] (ej_sh, m) ((some (Value.int q.1), (ej_sh, q.2)) : Option Value × ej_H) := by
  obtain ⟨e, rfl⟩ : ∃ e, d = e + 1 := ⟨d - 1, by omega⟩
  exact z_met (by decide +kernel) (Nat.le_of_ble_eq_true rfl) (b_X11_undo e (by omega)  m (K := fun z => ((some (Value.int q.1), (ej_sh, q.2)) : Option Value × ej_H) = (some (Value.int z.1), (ej_sh, z.2))) hf rfl (fun _ h => h))
def f_X1_redoNext  (m : ej_M) : Option (Int32 × ej_M) :=
  if (m.1 11 4) = (m.1 11 5) then
    some ((-5), m)
  else
    (f_X10_at 12 (m.1 11 4) m).bind fun q1 =>
    (f_X10_at 14 (q1.2.1 11 4) q1.2).bind fun q2 =>
    (f_X1_become q1.1 q2.1 q2.2).bind fun q3 =>
    (oj_pf q3.2 11 4 ((q3.2.1 11 4) + 1)).bind fun m4 =>
    some (((m4.1 11 5) - (m4.1 11 4)), m4)
set_option maxHeartbeats 4000000 in
set_option maxRecDepth 100000 in
theorem b_X1_redoNext (e : Nat) (hd : 2 ≤ e)  (m : ej_M) {x : (Int32 × ej_M)} {res : Option Value × ej_H} {K : (Int32 × ej_M) → Prop} (hf : f_X1_redoNext  m = some x) (hK : K x) (h0 : ∀ q : (Int32 × ej_M), K q → res = (some (Value.int q.1), (ej_sh, q.2))) : ej_Z cX1_redoNext 1 (some .int) RX1 "redoNext" (e + 1) 0 [(0, .ref 11)] [] (ej_sh, m) res := by
  unfold f_X1_redoNext at hf
  refine z_aload_n (pc := 0) (i := 0) (j := 0) dX1_redoNext_0 rfl rfl ?_
  refine z_ogetI (pc := 1) dX1_redoNext_1 lf_RX1_35 sh_11 rfl rfl ?_
  refine z_aload_n (pc := 4) (i := 0) (j := 0) dX1_redoNext_4 rfl rfl ?_
  refine z_ogetI (pc := 5) dX1_redoNext_5 lf_RX1_45 sh_11 rfl rfl ?_
  refine z_icmp_ne (pc := 8) (tgt := 14) dX1_redoNext_8 (by decide) (fun hc => ?_) (fun hc => ?_)
  · rw [if_neg hc] at hf
    refine z_aload_n (pc := 14) (i := 0) (j := 0) dX1_redoNext_14 rfl rfl ?_
    refine z_aload_n (pc := 15) (i := 0) (j := 0) dX1_redoNext_15 rfl rfl ?_
    refine z_ogetR (pc := 16) dX1_redoNext_16 lf_RX1_11 sh_11 rfl rfl rfl ?_
    refine z_aload_n (pc := 19) (i := 0) (j := 0) dX1_redoNext_19 rfl rfl ?_
    refine z_ogetI (pc := 20) dX1_redoNext_20 lf_RX1_35 sh_11 rfl rfl ?_
    obtain ⟨q1, hq1, hf⟩ := Option.bind_eq_some_iff.mp hf
    refine z_oSi (pc := 23) (as := [.ref 12, .int (m.1 11 4)]) (rest := [.ref 11]) dX1_redoNext_23 lm_RX1_58 mf_X10_at ms_X10_at rfl rfl (Nat.le_of_ble_eq_true rfl) (c_X10_at e (by omega) 12 (m.1 11 4) m hq1) ?_
    refine z_aload_n (pc := 26) (i := 0) (j := 0) dX1_redoNext_26 rfl rfl ?_
    refine z_ogetR (pc := 27) dX1_redoNext_27 lf_RX1_18 sh_11 rfl rfl rfl ?_
    refine z_aload_n (pc := 30) (i := 0) (j := 0) dX1_redoNext_30 rfl rfl ?_
    refine z_ogetI (pc := 31) dX1_redoNext_31 lf_RX1_35 sh_11 rfl rfl ?_
    obtain ⟨q2, hq2, hf⟩ := Option.bind_eq_some_iff.mp hf
    refine z_oSi (pc := 34) (as := [.ref 14, .int (q1.2.1 11 4)]) (rest := [.int q1.1, .ref 11]) dX1_redoNext_34 lm_RX1_58 mf_X10_at ms_X10_at rfl rfl (Nat.le_of_ble_eq_true rfl) (c_X10_at e (by omega) 14 (q1.2.1 11 4) q1.2 hq2) ?_
    obtain ⟨q3, hq3, hf⟩ := Option.bind_eq_some_iff.mp hf
    refine z_oVv (pc := 37) (as := [.int q1.1, .int q2.1]) (rest := []) dX1_redoNext_37 lm_RX1_48 mf_X1_become mi_X1_become mv_X1_become rc_11 rfl rfl (Nat.le_of_ble_eq_true rfl) (c_X1_become e (by omega) q1.1 q2.1 q2.2 hq3) ?_
    refine z_aload_n (pc := 40) (i := 0) (j := 0) dX1_redoNext_40 rfl rfl ?_
    refine z_dup (pc := 41) dX1_redoNext_41 rfl ?_
    refine z_ogetI (pc := 42) dX1_redoNext_42 lf_RX1_35 sh_11 rfl rfl ?_
    refine z_iconst (pc := 45) dX1_redoNext_45 ki_1 ?_
    refine z_iadd (pc := 46) dX1_redoNext_46 ?_
    obtain ⟨m4, hm4, hf⟩ := Option.bind_eq_some_iff.mp hf
    refine z_oputI (pc := 47) dX1_redoNext_47 lf_RX1_35 sh_11 rfl hm4 ?_
    refine z_aload_n (pc := 50) (i := 0) (j := 0) dX1_redoNext_50 rfl rfl ?_
    refine z_ogetI (pc := 51) dX1_redoNext_51 lf_RX1_45 sh_11 rfl rfl ?_
    refine z_aload_n (pc := 54) (i := 0) (j := 0) dX1_redoNext_54 rfl rfl ?_
    refine z_ogetI (pc := 55) dX1_redoNext_55 lf_RX1_35 sh_11 rfl rfl ?_
    refine z_isub (pc := 58) dX1_redoNext_58 ?_
    obtain rfl := Option.some.inj hf
    rw [h0 _ hK]
    exact z_iret dX1_redoNext_59 rfl rfl
  · rw [if_pos hc] at hf
    refine z_bipush (pc := 11) dX1_redoNext_11 kb_n5 ?_
    obtain rfl := Option.some.inj hf
    rw [h0 _ hK]
    exact z_iret dX1_redoNext_13 rfl rfl
set_option maxHeartbeats 4000000 in
set_option maxRecDepth 100000 in
theorem c_X1_redoNext (d : Nat) (hd : 3 ≤ d)  (m : ej_M) {q : (Int32 × ej_M)} (hf : f_X1_redoNext  m = some q) : ej_Ct yX1_redoNext cX1_redoNext 1 (some .int) d [.ref 11] (ej_sh, m) ((some (Value.int q.1), (ej_sh, q.2)) : Option Value × ej_H) := by
  obtain ⟨e, rfl⟩ : ∃ e, d = e + 1 := ⟨d - 1, by omega⟩
  exact z_met (by decide +kernel) (Nat.le_of_ble_eq_true rfl) (b_X1_redoNext e (by omega)  m (K := fun z => ((some (Value.int q.1), (ej_sh, q.2)) : Option Value × ej_H) = (some (Value.int z.1), (ej_sh, z.2))) hf rfl (fun _ h => h))
def f_X10_redo  (m : ej_M) : Option (Int32 × ej_M) :=
  (f_X1_redoNext m).bind fun q1 =>
  some (q1.1, q1.2)
set_option maxHeartbeats 4000000 in
set_option maxRecDepth 100000 in
theorem b_X10_redo (e : Nat) (hd : 3 ≤ e)  (m : ej_M) {x : (Int32 × ej_M)} {res : Option Value × ej_H} {K : (Int32 × ej_M) → Prop} (hf : f_X10_redo  m = some x) (hK : K x) (h0 : ∀ q : (Int32 × ej_M), K q → res = (some (Value.int q.1), (ej_sh, q.2))) : ej_Z cX10_redo 1 (some .int) RX10 "redo" (e + 1) 0 [(0, .ref 0)] [] (ej_sh, m) res := by
  unfold f_X10_redo at hf
  refine z_aload_n (pc := 0) (i := 0) (j := 0) dX10_redo_0 rfl rfl ?_
  refine z_ogetR (pc := 1) dX10_redo_1 lf_RX10_30 sh_0 rfl rfl rfl ?_
  obtain ⟨q1, hq1, hf⟩ := Option.bind_eq_some_iff.mp hf
  refine z_oVi (pc := 4) (as := []) (rest := []) dX10_redo_4 lm_RX10_253 mf_X1_redoNext mi_X1_redoNext mv_X1_redoNext rc_11 rfl rfl (Nat.le_of_ble_eq_true rfl) (c_X1_redoNext e (by omega) m hq1) ?_
  obtain rfl := Option.some.inj hf
  rw [h0 _ hK]
  exact z_iret dX10_redo_7 rfl rfl
set_option maxHeartbeats 4000000 in
set_option maxRecDepth 100000 in
theorem c_X10_redo (d : Nat) (hd : 4 ≤ d)  (m : ej_M) {q : (Int32 × ej_M)} (hf : f_X10_redo  m = some q) : ej_Ct yX10_redo cX10_redo 1 (some .int) d [.ref 0] (ej_sh, m) ((some (Value.int q.1), (ej_sh, q.2)) : Option Value × ej_H) := by
  obtain ⟨e, rfl⟩ : ∃ e, d = e + 1 := ⟨d - 1, by omega⟩
  exact z_met (by decide +kernel) (Nat.le_of_ble_eq_true rfl) (b_X10_redo e (by omega)  m (K := fun z => ((some (Value.int q.1), (ej_sh, q.2)) : Option Value × ej_H) = (some (Value.int z.1), (ej_sh, z.2))) hf rfl (fun _ h => h))
def f_X11_redo  (m : ej_M) : Option (Int32 × ej_M) :=
  if (m.1 41 9) = 0 then
    some ((-5), m)
  else
    (oj_ld 0 m 44 (m.1 41 8)).bind fun w1 =>
    (oj_ld 0 m 45 (m.1 41 8)).bind fun w2 =>
    (oj_ld 0 m 47 (m.1 41 8)).bind fun w3 =>
    (f_X11_lays w1 w2 w3 m).bind fun q4 =>
    (oj_pf q4.2 41 8 ((q4.2.1 41 8) + 1)).bind fun m5 =>
    (oj_pf m5 41 9 ((m5.1 41 9) - 1)).bind fun m6 =>
    some ((m6.1 41 9), m6)
set_option maxHeartbeats 4000000 in
set_option maxRecDepth 100000 in
theorem b_X11_redo (e : Nat) (hd : 0 ≤ e)  (m : ej_M) {x : (Int32 × ej_M)} {res : Option Value × ej_H} {K : (Int32 × ej_M) → Prop} (hf : f_X11_redo  m = some x) (hK : K x) (h0 : ∀ q : (Int32 × ej_M), K q → res = (some (Value.int q.1), (ej_sh, q.2))) : ej_Z cX11_redo 1 (some .int) RX11 "redo" (e + 1) 0 [(0, .ref 41)] [] (ej_sh, m) res := by
  unfold f_X11_redo at hf
  refine z_aload_n (pc := 0) (i := 0) (j := 0) dX11_redo_0 rfl rfl ?_
  refine z_ogetI (pc := 1) dX11_redo_1 lf_RX11_126 sh_41 rfl rfl ?_
  refine z_if_ne (pc := 4) (tgt := 10) dX11_redo_4 (by decide) (fun hc => ?_) (fun hc => ?_)
  · rw [if_neg hc] at hf
    refine z_aload_n (pc := 10) (i := 0) (j := 0) dX11_redo_10 rfl rfl ?_
    refine z_aload_n (pc := 11) (i := 0) (j := 0) dX11_redo_11 rfl rfl ?_
    refine z_ogetR (pc := 12) dX11_redo_12 lf_RX11_16 sh_41 rfl rfl rfl ?_
    refine z_aload_n (pc := 15) (i := 0) (j := 0) dX11_redo_15 rfl rfl ?_
    refine z_ogetI (pc := 16) dX11_redo_16 lf_RX11_129 sh_41 rfl rfl ?_
    obtain ⟨w1, hw1, hf⟩ := Option.bind_eq_some_iff.mp hf
    refine z_oiald (pc := 19) dX11_redo_19 hw1 ?_
    refine z_aload_n (pc := 20) (i := 0) (j := 0) dX11_redo_20 rfl rfl ?_
    refine z_ogetR (pc := 21) dX11_redo_21 lf_RX11_19 sh_41 rfl rfl rfl ?_
    refine z_aload_n (pc := 24) (i := 0) (j := 0) dX11_redo_24 rfl rfl ?_
    refine z_ogetI (pc := 25) dX11_redo_25 lf_RX11_129 sh_41 rfl rfl ?_
    obtain ⟨w2, hw2, hf⟩ := Option.bind_eq_some_iff.mp hf
    refine z_oiald (pc := 28) dX11_redo_28 hw2 ?_
    refine z_aload_n (pc := 29) (i := 0) (j := 0) dX11_redo_29 rfl rfl ?_
    refine z_ogetR (pc := 30) dX11_redo_30 lf_RX11_25 sh_41 rfl rfl rfl ?_
    refine z_aload_n (pc := 33) (i := 0) (j := 0) dX11_redo_33 rfl rfl ?_
    refine z_ogetI (pc := 34) dX11_redo_34 lf_RX11_129 sh_41 rfl rfl ?_
    obtain ⟨w3, hw3, hf⟩ := Option.bind_eq_some_iff.mp hf
    refine z_oiald (pc := 37) dX11_redo_37 hw3 ?_
    obtain ⟨q4, hq4, hf⟩ := Option.bind_eq_some_iff.mp hf
    refine z_oVv (pc := 38) (as := [.int w1, .int w2, .int w3]) (rest := []) dX11_redo_38 lm_RX11_132 mf_X11_lays mi_X11_lays mv_X11_lays rc_41 rfl rfl (Nat.le_of_ble_eq_true rfl) (c_X11_lays e (by omega) w1 w2 w3 m hq4) ?_
    refine z_aload_n (pc := 41) (i := 0) (j := 0) dX11_redo_41 rfl rfl ?_
    refine z_dup (pc := 42) dX11_redo_42 rfl ?_
    refine z_ogetI (pc := 43) dX11_redo_43 lf_RX11_129 sh_41 rfl rfl ?_
    refine z_iconst (pc := 46) dX11_redo_46 ki_1 ?_
    refine z_iadd (pc := 47) dX11_redo_47 ?_
    obtain ⟨m5, hm5, hf⟩ := Option.bind_eq_some_iff.mp hf
    refine z_oputI (pc := 48) dX11_redo_48 lf_RX11_129 sh_41 rfl hm5 ?_
    refine z_aload_n (pc := 51) (i := 0) (j := 0) dX11_redo_51 rfl rfl ?_
    refine z_dup (pc := 52) dX11_redo_52 rfl ?_
    refine z_ogetI (pc := 53) dX11_redo_53 lf_RX11_126 sh_41 rfl rfl ?_
    refine z_iconst (pc := 56) dX11_redo_56 ki_1 ?_
    refine z_isub (pc := 57) dX11_redo_57 ?_
    obtain ⟨m6, hm6, hf⟩ := Option.bind_eq_some_iff.mp hf
    refine z_oputI (pc := 58) dX11_redo_58 lf_RX11_126 sh_41 rfl hm6 ?_
    refine z_aload_n (pc := 61) (i := 0) (j := 0) dX11_redo_61 rfl rfl ?_
    refine z_ogetI (pc := 62) dX11_redo_62 lf_RX11_126 sh_41 rfl rfl ?_
    obtain rfl := Option.some.inj hf
    rw [h0 _ hK]
    exact z_iret dX11_redo_65 rfl rfl
  · rw [if_pos hc] at hf
    refine z_bipush (pc := 7) dX11_redo_7 kb_n5 ?_
    obtain rfl := Option.some.inj hf
    rw [h0 _ hK]
    exact z_iret dX11_redo_9 rfl rfl
set_option maxHeartbeats 4000000 in
set_option maxRecDepth 100000 in
theorem c_X11_redo (d : Nat) (hd : 1 ≤ d)  (m : ej_M) {q : (Int32 × ej_M)} (hf : f_X11_redo  m = some q) : ej_Ct yX11_redo cX11_redo 1 (some .int) d [.ref 41] (ej_sh, m) ((some (Value.int q.1), (ej_sh, q.2)) : Option Value × ej_H) := by
  obtain ⟨e, rfl⟩ : ∃ e, d = e + 1 := ⟨d - 1, by omega⟩
  exact z_met (by decide +kernel) (Nat.le_of_ble_eq_true rfl) (b_X11_redo e (by omega)  m (K := fun z => ((some (Value.int q.1), (ej_sh, q.2)) : Option Value × ej_H) = (some (Value.int z.1), (ej_sh, z.2))) hf rfl (fun _ h => h))
def f_X0_add (v1 : Int32) (m : ej_M) : Option (Int32 × ej_M) :=
  if v1 < 0 then
    some ((-1), m)
  else
    if v1 < 8 then
      if (m.1 34 1) < 50 then
        (f_X10_lay 35 (m.1 34 1) v1 m).bind fun q1 =>
        (oj_pf q1.2 34 1 ((q1.2.1 34 1) + 1)).bind fun m2 =>
        some (((m2.1 34 1) - 1), m2)
      else
        some ((-3), m)
    else
      some ((-1), m)
set_option maxHeartbeats 4000000 in
set_option maxRecDepth 100000 in
theorem b_X0_add (e : Nat) (hd : 0 ≤ e) (v1 : Int32) (m : ej_M) {x : (Int32 × ej_M)} {res : Option Value × ej_H} {K : (Int32 × ej_M) → Prop} (hf : f_X0_add v1 m = some x) (hK : K x) (h0 : ∀ q : (Int32 × ej_M), K q → res = (some (Value.int q.1), (ej_sh, q.2))) : ej_Z cX0_add 2 (some .int) RX0 "add" (e + 1) 0 [(0, .ref 34), (1, .int v1)] [] (ej_sh, m) res := by
  unfold f_X0_add at hf
  refine z_iload_n (pc := 0) (i := 1) (j := 1) dX0_add_0 rfl rfl ?_
  refine z_if_lt (pc := 1) (tgt := 10) dX0_add_1 (by decide) (fun hc => ?_) (fun hc => ?_)
  · rw [if_pos hc] at hf
    refine z_iconst (pc := 10) dX0_add_10 ki_n1 ?_
    obtain rfl := Option.some.inj hf
    rw [h0 _ hK]
    exact z_iret dX0_add_11 rfl rfl
  · rw [if_neg hc] at hf
    refine z_iload_n (pc := 4) (i := 1) (j := 1) dX0_add_4 rfl rfl ?_
    refine z_bipush (pc := 5) dX0_add_5 kb_8 ?_
    refine z_icmp_lt (pc := 7) (tgt := 12) dX0_add_7 (by decide) (fun hc => ?_) (fun hc => ?_)
    · rw [if_pos hc] at hf
      refine z_aload_n (pc := 12) (i := 0) (j := 0) dX0_add_12 rfl rfl ?_
      refine z_ogetI (pc := 13) dX0_add_13 lf_RX0_18 sh_34 rfl rfl ?_
      refine z_bipush (pc := 16) dX0_add_16 kb_50 ?_
      refine z_icmp_lt (pc := 18) (tgt := 24) dX0_add_18 (by decide) (fun hc => ?_) (fun hc => ?_)
      · rw [if_pos hc] at hf
        refine z_aload_n (pc := 24) (i := 0) (j := 0) dX0_add_24 rfl rfl ?_
        refine z_ogetR (pc := 25) dX0_add_25 lf_RX0_11 sh_34 rfl rfl rfl ?_
        refine z_aload_n (pc := 28) (i := 0) (j := 0) dX0_add_28 rfl rfl ?_
        refine z_ogetI (pc := 29) dX0_add_29 lf_RX0_18 sh_34 rfl rfl ?_
        refine z_iload_n (pc := 32) (i := 1) (j := 1) dX0_add_32 rfl rfl ?_
        obtain ⟨q1, hq1, hf⟩ := Option.bind_eq_some_iff.mp hf
        refine z_oSv (pc := 33) (as := [.ref 35, .int (m.1 34 1), .int v1]) (rest := []) dX0_add_33 lm_RX0_22 mf_X10_lay ms_X10_lay rfl rfl (Nat.le_of_ble_eq_true rfl) (c_X10_lay e (by omega) 35 (m.1 34 1) v1 m hq1) ?_
        refine z_aload_n (pc := 36) (i := 0) (j := 0) dX0_add_36 rfl rfl ?_
        refine z_dup (pc := 37) dX0_add_37 rfl ?_
        refine z_ogetI (pc := 38) dX0_add_38 lf_RX0_18 sh_34 rfl rfl ?_
        refine z_iconst (pc := 41) dX0_add_41 ki_1 ?_
        refine z_iadd (pc := 42) dX0_add_42 ?_
        obtain ⟨m2, hm2, hf⟩ := Option.bind_eq_some_iff.mp hf
        refine z_oputI (pc := 43) dX0_add_43 lf_RX0_18 sh_34 rfl hm2 ?_
        refine z_aload_n (pc := 46) (i := 0) (j := 0) dX0_add_46 rfl rfl ?_
        refine z_ogetI (pc := 47) dX0_add_47 lf_RX0_18 sh_34 rfl rfl ?_
        refine z_iconst (pc := 50) dX0_add_50 ki_1 ?_
        refine z_isub (pc := 51) dX0_add_51 ?_
        obtain rfl := Option.some.inj hf
        rw [h0 _ hK]
        exact z_iret dX0_add_52 rfl rfl
      · rw [if_neg hc] at hf
        refine z_bipush (pc := 21) dX0_add_21 kb_n3 ?_
        obtain rfl := Option.some.inj hf
        rw [h0 _ hK]
        exact z_iret dX0_add_23 rfl rfl
    · rw [if_neg hc] at hf
      refine z_iconst (pc := 10) dX0_add_10 ki_n1 ?_
      obtain rfl := Option.some.inj hf
      rw [h0 _ hK]
      exact z_iret dX0_add_11 rfl rfl
set_option maxHeartbeats 4000000 in
set_option maxRecDepth 100000 in
theorem c_X0_add (d : Nat) (hd : 1 ≤ d) (v1 : Int32) (m : ej_M) {q : (Int32 × ej_M)} (hf : f_X0_add v1 m = some q) : ej_Ct yX0_add cX0_add 2 (some .int) d [.ref 34, .int v1] (ej_sh, m) ((some (Value.int q.1), (ej_sh, q.2)) : Option Value × ej_H) := by
  obtain ⟨e, rfl⟩ : ∃ e, d = e + 1 := ⟨d - 1, by omega⟩
  exact z_met (by decide +kernel) (Nat.le_of_ble_eq_true rfl) (b_X0_add e (by omega) v1 m (K := fun z => ((some (Value.int q.1), (ej_sh, q.2)) : Option Value × ej_H) = (some (Value.int z.1), (ej_sh, z.2))) hf rfl (fun _ h => h))
def f_X10_body (v1 : Int32) (m : ej_M) : Option (Int32 × ej_M) :=
  (f_X0_add v1 m).bind fun q1 =>
  some (q1.1, q1.2)
set_option maxHeartbeats 4000000 in
set_option maxRecDepth 100000 in
theorem b_X10_body (e : Nat) (hd : 1 ≤ e) (v1 : Int32) (m : ej_M) {x : (Int32 × ej_M)} {res : Option Value × ej_H} {K : (Int32 × ej_M) → Prop} (hf : f_X10_body v1 m = some x) (hK : K x) (h0 : ∀ q : (Int32 × ej_M), K q → res = (some (Value.int q.1), (ej_sh, q.2))) : ej_Z cX10_body 2 (some .int) RX10 "body" (e + 1) 0 [(0, .ref 0), (1, .int v1)] [] (ej_sh, m) res := by
  unfold f_X10_body at hf
  refine z_aload_n (pc := 0) (i := 0) (j := 0) dX10_body_0 rfl rfl ?_
  refine z_ogetR (pc := 1) dX10_body_1 lf_RX10_72 sh_0 rfl rfl rfl ?_
  refine z_iload_n (pc := 4) (i := 1) (j := 1) dX10_body_4 rfl rfl ?_
  obtain ⟨q1, hq1, hf⟩ := Option.bind_eq_some_iff.mp hf
  refine z_oVi (pc := 5) (as := [.int v1]) (rest := []) dX10_body_5 lm_RX10_256 mf_X0_add mi_X0_add mv_X0_add rc_34 rfl rfl (Nat.le_of_ble_eq_true rfl) (c_X0_add e (by omega) v1 m hq1) ?_
  obtain rfl := Option.some.inj hf
  rw [h0 _ hK]
  exact z_iret dX10_body_8 rfl rfl
set_option maxHeartbeats 4000000 in
set_option maxRecDepth 100000 in
theorem c_X10_body (d : Nat) (hd : 2 ≤ d) (v1 : Int32) (m : ej_M) {q : (Int32 × ej_M)} (hf : f_X10_body v1 m = some q) : ej_Ct yX10_body cX10_body 2 (some .int) d [.ref 0, .int v1] (ej_sh, m) ((some (Value.int q.1), (ej_sh, q.2)) : Option Value × ej_H) := by
  obtain ⟨e, rfl⟩ : ∃ e, d = e + 1 := ⟨d - 1, by omega⟩
  exact z_met (by decide +kernel) (Nat.le_of_ble_eq_true rfl) (b_X10_body e (by omega) v1 m (K := fun z => ((some (Value.int q.1), (ej_sh, q.2)) : Option Value × ej_H) = (some (Value.int z.1), (ej_sh, z.2))) hf rfl (fun _ h => h))
def f_X11_body (v1 : Int32) (m : ej_M) : Option (Int32 × ej_M) :=
  (f_X11_in v1 0 7 m).bind fun q1 =>
  if q1.1 = 0 then
    some ((-1), q1.2)
  else
    if (q1.2.1 41 43) = 50 then
      some ((-3), q1.2)
    else
      (oj_st 0 q1.2 64 (q1.2.1 41 43) v1).bind fun m2 =>
      (oj_pf m2 41 43 ((m2.1 41 43) + 1)).bind fun m3 =>
      some (((m3.1 41 43) - 1), m3)
set_option maxHeartbeats 4000000 in
set_option maxRecDepth 100000 in
theorem b_X11_body (e : Nat) (hd : 0 ≤ e) (v1 : Int32) (m : ej_M) {x : (Int32 × ej_M)} {res : Option Value × ej_H} {K : (Int32 × ej_M) → Prop} (hf : f_X11_body v1 m = some x) (hK : K x) (h0 : ∀ q : (Int32 × ej_M), K q → res = (some (Value.int q.1), (ej_sh, q.2))) : ej_Z cX11_body 2 (some .int) RX11 "body" (e + 1) 0 [(0, .ref 41), (1, .int v1)] [] (ej_sh, m) res := by
  unfold f_X11_body at hf
  refine z_iload_n (pc := 0) (i := 1) (j := 1) dX11_body_0 rfl rfl ?_
  refine z_iconst (pc := 1) dX11_body_1 ki_0 ?_
  refine z_bipush (pc := 2) dX11_body_2 kb_7 ?_
  obtain ⟨q1, hq1, hf⟩ := Option.bind_eq_some_iff.mp hf
  refine z_oSi (pc := 4) (as := [.int v1, .int 0, .int 7]) (rest := []) dX11_body_4 lm_RX11_104 mf_X11_in ms_X11_in rfl rfl (Nat.le_of_ble_eq_true rfl) (c_X11_in e (by omega) v1 0 7 m hq1) ?_
  refine z_if_ne (pc := 7) (tgt := 12) dX11_body_7 (by decide) (fun hc => ?_) (fun hc => ?_)
  · rw [if_neg hc] at hf
    refine z_aload_n (pc := 12) (i := 0) (j := 0) dX11_body_12 rfl rfl ?_
    refine z_ogetI (pc := 13) dX11_body_13 lf_RX11_338 sh_41 rfl rfl ?_
    refine z_bipush (pc := 16) dX11_body_16 kb_50 ?_
    refine z_icmp_ne (pc := 18) (tgt := 24) dX11_body_18 (by decide) (fun hc => ?_) (fun hc => ?_)
    · rw [if_neg hc] at hf
      refine z_aload_n (pc := 24) (i := 0) (j := 0) dX11_body_24 rfl rfl ?_
      refine z_ogetR (pc := 25) dX11_body_25 lf_RX11_78 sh_41 rfl rfl rfl ?_
      refine z_aload_n (pc := 28) (i := 0) (j := 0) dX11_body_28 rfl rfl ?_
      refine z_ogetI (pc := 29) dX11_body_29 lf_RX11_338 sh_41 rfl rfl ?_
      refine z_iload_n (pc := 32) (i := 1) (j := 1) dX11_body_32 rfl rfl ?_
      obtain ⟨m2, hm2, hf⟩ := Option.bind_eq_some_iff.mp hf
      refine z_oiast (pc := 33) dX11_body_33 hm2 ?_
      refine z_aload_n (pc := 34) (i := 0) (j := 0) dX11_body_34 rfl rfl ?_
      refine z_dup (pc := 35) dX11_body_35 rfl ?_
      refine z_ogetI (pc := 36) dX11_body_36 lf_RX11_338 sh_41 rfl rfl ?_
      refine z_iconst (pc := 39) dX11_body_39 ki_1 ?_
      refine z_iadd (pc := 40) dX11_body_40 ?_
      obtain ⟨m3, hm3, hf⟩ := Option.bind_eq_some_iff.mp hf
      refine z_oputI (pc := 41) dX11_body_41 lf_RX11_338 sh_41 rfl hm3 ?_
      refine z_aload_n (pc := 44) (i := 0) (j := 0) dX11_body_44 rfl rfl ?_
      refine z_ogetI (pc := 45) dX11_body_45 lf_RX11_338 sh_41 rfl rfl ?_
      refine z_iconst (pc := 48) dX11_body_48 ki_1 ?_
      refine z_isub (pc := 49) dX11_body_49 ?_
      obtain rfl := Option.some.inj hf
      rw [h0 _ hK]
      exact z_iret dX11_body_50 rfl rfl
    · rw [if_pos hc] at hf
      refine z_bipush (pc := 21) dX11_body_21 kb_n3 ?_
      obtain rfl := Option.some.inj hf
      rw [h0 _ hK]
      exact z_iret dX11_body_23 rfl rfl
  · rw [if_pos hc] at hf
    refine z_iconst (pc := 10) dX11_body_10 ki_n1 ?_
    obtain rfl := Option.some.inj hf
    rw [h0 _ hK]
    exact z_iret dX11_body_11 rfl rfl
set_option maxHeartbeats 4000000 in
set_option maxRecDepth 100000 in
theorem c_X11_body (d : Nat) (hd : 1 ≤ d) (v1 : Int32) (m : ej_M) {q : (Int32 × ej_M)} (hf : f_X11_body v1 m = some q) : ej_Ct yX11_body cX11_body 2 (some .int) d [.ref 41, .int v1] (ej_sh, m) ((some (Value.int q.1), (ej_sh, q.2)) : Option Value × ej_H) := by
  obtain ⟨e, rfl⟩ : ∃ e, d = e + 1 := ⟨d - 1, by omega⟩
  exact z_met (by decide +kernel) (Nat.le_of_ble_eq_true rfl) (b_X11_body e (by omega) v1 m (K := fun z => ((some (Value.int q.1), (ej_sh, q.2)) : Option Value × ej_H) = (some (Value.int z.1), (ej_sh, z.2))) hf rfl (fun _ h => h))
def f_X0_has (v1 : Int32) (m : ej_M) : Option (Int32 × ej_M) :=
  if v1 < 0 then
    some (0, m)
  else
    if (m.1 34 1) ≤ v1 then
      some (0, m)
    else
      some (1, m)
set_option maxHeartbeats 4000000 in
set_option maxRecDepth 100000 in
theorem b_X0_has (d : Nat) (v1 : Int32) (m : ej_M) {x : (Int32 × ej_M)} {res : Option Value × ej_H} {K : (Int32 × ej_M) → Prop} (hf : f_X0_has v1 m = some x) (hK : K x) (h0 : ∀ q : (Int32 × ej_M), K q → res = (some (Value.int q.1), (ej_sh, q.2))) : ej_Z cX0_has 2 (some .boolean) RX0 "has" d 0 [(0, .ref 34), (1, .int v1)] [] (ej_sh, m) res := by
  unfold f_X0_has at hf
  refine z_iload_n (pc := 0) (i := 1) (j := 1) dX0_has_0 rfl rfl ?_
  refine z_if_lt (pc := 1) (tgt := 16) dX0_has_1 (by decide) (fun hc => ?_) (fun hc => ?_)
  · rw [if_pos hc] at hf
    refine z_iconst (pc := 16) dX0_has_16 ki_0 ?_
    obtain rfl := Option.some.inj hf
    rw [h0 _ hK]
    exact z_iret dX0_has_17 rfl rfl
  · rw [if_neg hc] at hf
    refine z_iload_n (pc := 4) (i := 1) (j := 1) dX0_has_4 rfl rfl ?_
    refine z_aload_n (pc := 5) (i := 0) (j := 0) dX0_has_5 rfl rfl ?_
    refine z_ogetI (pc := 6) dX0_has_6 lf_RX0_18 sh_34 rfl rfl ?_
    refine z_icmp_ge (pc := 9) (tgt := 16) dX0_has_9 (by decide) (fun hc => ?_) (fun hc => ?_)
    · rw [if_pos hc] at hf
      refine z_iconst (pc := 16) dX0_has_16 ki_0 ?_
      obtain rfl := Option.some.inj hf
      rw [h0 _ hK]
      exact z_iret dX0_has_17 rfl rfl
    · rw [if_neg hc] at hf
      refine z_iconst (pc := 12) dX0_has_12 ki_1 ?_
      refine z_goto (pc := 13) (tgt := 17) dX0_has_13 (by decide) ?_
      obtain rfl := Option.some.inj hf
      rw [h0 _ hK]
      exact z_iret dX0_has_17 rfl rfl
set_option maxHeartbeats 4000000 in
set_option maxRecDepth 100000 in
theorem c_X0_has (d : Nat) (hd : 0 ≤ d) (v1 : Int32) (m : ej_M) {q : (Int32 × ej_M)} (hf : f_X0_has v1 m = some q) : ej_Ct yX0_has cX0_has 2 (some .boolean) d [.ref 34, .int v1] (ej_sh, m) ((some (Value.int q.1), (ej_sh, q.2)) : Option Value × ej_H) := by
  exact z_met (by decide +kernel) (Nat.le_of_ble_eq_true rfl) (b_X0_has d v1 m (K := fun z => ((some (Value.int q.1), (ej_sh, q.2)) : Option Value × ej_H) = (some (Value.int z.1), (ej_sh, z.2))) hf rfl (fun _ h => h))
def f_X0_kindOf (v1 : Int32) (m : ej_M) : Option (Int32 × ej_M) :=
  (f_X0_has v1 m).bind fun q1 =>
  if q1.1 = 0 then
    some ((-1), q1.2)
  else
    (f_X10_at 35 v1 q1.2).bind fun q2 =>
    some (q2.1, q2.2)
set_option maxHeartbeats 4000000 in
set_option maxRecDepth 100000 in
theorem b_X0_kindOf (e : Nat) (hd : 0 ≤ e) (v1 : Int32) (m : ej_M) {x : (Int32 × ej_M)} {res : Option Value × ej_H} {K : (Int32 × ej_M) → Prop} (hf : f_X0_kindOf v1 m = some x) (hK : K x) (h0 : ∀ q : (Int32 × ej_M), K q → res = (some (Value.int q.1), (ej_sh, q.2))) : ej_Z cX0_kindOf 2 (some .int) RX0 "kindOf" (e + 1) 0 [(0, .ref 34), (1, .int v1)] [] (ej_sh, m) res := by
  unfold f_X0_kindOf at hf
  refine z_aload_n (pc := 0) (i := 0) (j := 0) dX0_kindOf_0 rfl rfl ?_
  refine z_iload_n (pc := 1) (i := 1) (j := 1) dX0_kindOf_1 rfl rfl ?_
  obtain ⟨q1, hq1, hf⟩ := Option.bind_eq_some_iff.mp hf
  refine z_oVi (pc := 2) (as := [.int v1]) (rest := []) dX0_kindOf_2 lm_RX0_26 mf_X0_has mi_X0_has mv_X0_has rc_34 rfl rfl (Nat.le_of_ble_eq_true rfl) (c_X0_has e (by omega) v1 m hq1) ?_
  refine z_if_eq (pc := 5) (tgt := 19) dX0_kindOf_5 (by decide) (fun hc => ?_) (fun hc => ?_)
  · rw [if_pos hc] at hf
    refine z_iconst (pc := 19) dX0_kindOf_19 ki_n1 ?_
    obtain rfl := Option.some.inj hf
    rw [h0 _ hK]
    exact z_iret dX0_kindOf_20 rfl rfl
  · rw [if_neg hc] at hf
    refine z_aload_n (pc := 8) (i := 0) (j := 0) dX0_kindOf_8 rfl rfl ?_
    refine z_ogetR (pc := 9) dX0_kindOf_9 lf_RX0_11 sh_34 rfl rfl rfl ?_
    refine z_iload_n (pc := 12) (i := 1) (j := 1) dX0_kindOf_12 rfl rfl ?_
    obtain ⟨q2, hq2, hf⟩ := Option.bind_eq_some_iff.mp hf
    refine z_oSi (pc := 13) (as := [.ref 35, .int v1]) (rest := []) dX0_kindOf_13 lm_RX0_30 mf_X10_at ms_X10_at rfl rfl (Nat.le_of_ble_eq_true rfl) (c_X10_at e (by omega) 35 v1 q1.2 hq2) ?_
    refine z_goto (pc := 16) (tgt := 20) dX0_kindOf_16 (by decide) ?_
    obtain rfl := Option.some.inj hf
    rw [h0 _ hK]
    exact z_iret dX0_kindOf_20 rfl rfl
set_option maxHeartbeats 4000000 in
set_option maxRecDepth 100000 in
theorem c_X0_kindOf (d : Nat) (hd : 1 ≤ d) (v1 : Int32) (m : ej_M) {q : (Int32 × ej_M)} (hf : f_X0_kindOf v1 m = some q) : ej_Ct yX0_kindOf cX0_kindOf 2 (some .int) d [.ref 34, .int v1] (ej_sh, m) ((some (Value.int q.1), (ej_sh, q.2)) : Option Value × ej_H) := by
  obtain ⟨e, rfl⟩ : ∃ e, d = e + 1 := ⟨d - 1, by omega⟩
  exact z_met (by decide +kernel) (Nat.le_of_ble_eq_true rfl) (b_X0_kindOf e (by omega) v1 m (K := fun z => ((some (Value.int q.1), (ej_sh, q.2)) : Option Value × ej_H) = (some (Value.int z.1), (ej_sh, z.2))) hf rfl (fun _ h => h))
def f_X0_numberOf_L5b (v2 : Int32) (v3 : Int32) (v4 : Int32) (m : ej_M) : Option ((Int32 × Int32 × ej_M) ⊕ (Int32 × ej_M)) :=
  if 8 ≤ v4 then
    some (Sum.inr (0, m))
  else
    if v3 = (-1) then
      some (Sum.inr (0, m))
    else
      (f_X10_at 1001 ((v3 * 4) + v2) m).bind fun q1 =>
      if q1.1 = 0 then
        (f_X10_at 1000 v3 q1.2).bind fun q2 =>
        some (Sum.inl (q2.1, (v4 + 1), q2.2))
      else
        some (Sum.inr (q1.1, q1.2))
set_option maxHeartbeats 4000000 in
set_option maxRecDepth 100000 in
theorem b_X0_numberOf_L5b (e : Nat) (hd : 0 ≤ e) (v2 : Int32) (v3 : Int32) (v4 : Int32) (m : ej_M) {x : ((Int32 × Int32 × ej_M) ⊕ (Int32 × ej_M))} {res : Option Value × ej_H} {K : ((Int32 × Int32 × ej_M) ⊕ (Int32 × ej_M)) → Prop} (hf : f_X0_numberOf_L5b v2 v3 v4 m = some x) (hK : K x) (h1 : ∀ q : (Int32 × Int32 × ej_M), K (Sum.inl q) → ej_Z cX0_numberOf 6 (some .int) RX0 "numberOf" (e + 1) 5 [(2, .int v2), (3, .int q.1), (4, .int q.2.1)] [] (ej_sh, q.2.2) res) (h0 : ∀ q : (Int32 × ej_M), K (Sum.inr q) → res = (some (Value.int q.1), (ej_sh, q.2))) : ej_Z cX0_numberOf 6 (some .int) RX0 "numberOf" (e + 1) 5 [(2, .int v2), (3, .int v3), (4, .int v4)] [] (ej_sh, m) res := by
  unfold f_X0_numberOf_L5b at hf
  refine z_iload (pc := 5) (i := 4) (j := 2) dX0_numberOf_5 rfl ?_
  refine z_bipush (pc := 7) dX0_numberOf_7 kb_8 ?_
  refine z_icmp_ge (pc := 9) (tgt := 52) dX0_numberOf_9 (by decide) (fun hc => ?_) (fun hc => ?_)
  · rw [if_pos hc] at hf
    refine z_iconst (pc := 52) dX0_numberOf_52 ki_0 ?_
    obtain rfl := Option.some.inj hf
    rw [h0 _ hK]
    exact z_iret dX0_numberOf_53 rfl rfl
  · rw [if_neg hc] at hf
    refine z_iload_n (pc := 12) (i := 3) (j := 1) dX0_numberOf_12 rfl rfl ?_
    refine z_iconst (pc := 13) dX0_numberOf_13 ki_n1 ?_
    refine z_icmp_eq (pc := 14) (tgt := 52) dX0_numberOf_14 (by decide) (fun hc => ?_) (fun hc => ?_)
    · rw [if_pos hc] at hf
      refine z_iconst (pc := 52) dX0_numberOf_52 ki_0 ?_
      obtain rfl := Option.some.inj hf
      rw [h0 _ hK]
      exact z_iret dX0_numberOf_53 rfl rfl
    · rw [if_neg hc] at hf
      refine z_gets (pc := 17) (a := 1001) dX0_numberOf_17 (by decide) ls_RX0_55 ?_
      refine z_iload_n (pc := 20) (i := 3) (j := 1) dX0_numberOf_20 rfl rfl ?_
      refine z_iconst (pc := 21) dX0_numberOf_21 ki_4 ?_
      refine z_imul (pc := 22) dX0_numberOf_22 ?_
      refine z_iload_n (pc := 23) (i := 2) (j := 0) dX0_numberOf_23 rfl rfl ?_
      refine z_iadd (pc := 24) dX0_numberOf_24 ?_
      obtain ⟨q1, hq1, hf⟩ := Option.bind_eq_some_iff.mp hf
      refine z_oSi (pc := 25) (as := [.ref 1001, .int ((v3 * 4) + v2)]) (rest := []) dX0_numberOf_25 lm_RX0_30 mf_X10_at ms_X10_at rfl rfl (Nat.le_of_ble_eq_true rfl) (c_X10_at e (by omega) 1001 ((v3 * 4) + v2) m hq1) ?_
      refine z_istore (pc := 28) (i := 5) (ls' := [(5, .int q1.1), (2, .int v2), (3, .int v3), (4, .int v4)]) dX0_numberOf_28 (Nat.le_of_ble_eq_true rfl) rfl ?_
      refine z_iload (pc := 30) (i := 5) (j := 0) dX0_numberOf_30 rfl ?_
      refine z_if_eq (pc := 32) (tgt := 38) dX0_numberOf_32 (by decide) (fun hc => ?_) (fun hc => ?_)
      · rw [if_pos hc] at hf
        refine z_gets (pc := 38) (a := 1000) dX0_numberOf_38 (by decide) ls_RX0_34 ?_
        refine z_iload_n (pc := 41) (i := 3) (j := 2) dX0_numberOf_41 rfl rfl ?_
        obtain ⟨q2, hq2, hf⟩ := Option.bind_eq_some_iff.mp hf
        refine z_oSi (pc := 42) (as := [.ref 1000, .int v3]) (rest := []) dX0_numberOf_42 lm_RX0_30 mf_X10_at ms_X10_at rfl rfl (Nat.le_of_ble_eq_true rfl) (c_X10_at e (by omega) 1000 v3 q1.2 hq2) ?_
        refine z_istore_n (pc := 45) (i := 3) (ls' := [(3, .int q2.1), (5, .int q1.1), (2, .int v2), (4, .int v4)]) dX0_numberOf_45 rfl (Nat.le_of_ble_eq_true rfl) rfl ?_
        refine z_iinc (pc := 46) (j := 3) (ls' := [(4, .int (v4 + 1)), (3, .int q2.1), (5, .int q1.1), (2, .int v2)]) dX0_numberOf_46 rfl ki_1 (Nat.le_of_ble_eq_true rfl) rfl ?_
        refine z_goto (pc := 49) (tgt := 5) dX0_numberOf_49 (by decide) ?_
        obtain rfl := Option.some.inj hf
        exact z_pick (ls' := [(2, .int v2), (3, .int q2.1), (4, .int (v4 + 1))]) [3, 1, 0] rfl (h1 (q2.1, (v4 + 1), q2.2) hK)
      · rw [if_neg hc] at hf
        refine z_iload (pc := 35) (i := 5) (j := 0) dX0_numberOf_35 rfl ?_
        obtain rfl := Option.some.inj hf
        rw [h0 _ hK]
        exact z_iret dX0_numberOf_37 rfl rfl
def f_X0_numberOf_L5 (v2 : Int32) (v3 : Int32) (v4 : Int32) (m : ej_M) : Option (Int32 × ej_M) := oj_loop (fun q : (Int32 × Int32 × ej_M) => f_X0_numberOf_L5b v2 q.1 q.2.1 q.2.2) oj_FU (v3, v4, m)
set_option maxHeartbeats 4000000 in
set_option maxRecDepth 100000 in
theorem b_X0_numberOf_L5 (e : Nat) (hd : 0 ≤ e) (v2 : Int32) (v3 : Int32) (v4 : Int32) (m : ej_M) {x : (Int32 × ej_M)} {res : Option Value × ej_H} {K : (Int32 × ej_M) → Prop} (hf : f_X0_numberOf_L5 v2 v3 v4 m = some x) (hK : K x) (h0 : ∀ q : (Int32 × ej_M), K q → res = (some (Value.int q.1), (ej_sh, q.2))) : ej_Z cX0_numberOf 6 (some .int) RX0 "numberOf" (e + 1) 5 [(2, .int v2), (3, .int v3), (4, .int v4)] [] (ej_sh, m) res :=
  oj_loop_Z (body := fun q : (Int32 × Int32 × ej_M) => f_X0_numberOf_L5b v2 q.1 q.2.1 q.2.2) (P := fun q : (Int32 × Int32 × ej_M) => ej_Z cX0_numberOf 6 (some .int) RX0 "numberOf" (e + 1) 5 [(2, .int v2), (3, .int q.1), (4, .int q.2.1)] [] (ej_sh, q.2.2) res) (K := K) (fun s x hb hl hr => b_X0_numberOf_L5b e hd v2  s.1 s.2.1 s.2.2 (K := fun x => (∀ s' : (Int32 × Int32 × ej_M), x = Sum.inl s' → ej_Z cX0_numberOf 6 (some .int) RX0 "numberOf" (e + 1) 5 [(2, .int v2), (3, .int s'.1), (4, .int s'.2.1)] [] (ej_sh, s'.2.2) res) ∧ ∀ e, x = Sum.inr e → K e) hb ⟨hl, hr⟩ (fun q hq => hq.1 q rfl) (fun q hq => h0 q (hq.2 _ rfl))) oj_FU (v3, v4, m) x hf hK
def f_X0_numberOf (v1 : Int32) (v2 : Int32) (m : ej_M) : Option (Int32 × ej_M) :=
  f_X0_numberOf_L5 v2 v1 0 m
set_option maxHeartbeats 4000000 in
set_option maxRecDepth 100000 in
theorem b_X0_numberOf (e : Nat) (hd : 0 ≤ e) (v1 : Int32) (v2 : Int32) (m : ej_M) {x : (Int32 × ej_M)} {res : Option Value × ej_H} {K : (Int32 × ej_M) → Prop} (hf : f_X0_numberOf v1 v2 m = some x) (hK : K x) (h0 : ∀ q : (Int32 × ej_M), K q → res = (some (Value.int q.1), (ej_sh, q.2))) : ej_Z cX0_numberOf 6 (some .int) RX0 "numberOf" (e + 1) 0 [(0, .ref 34), (1, .int v1), (2, .int v2)] [] (ej_sh, m) res := by
  unfold f_X0_numberOf at hf
  refine z_iload_n (pc := 0) (i := 1) (j := 1) dX0_numberOf_0 rfl rfl ?_
  refine z_istore_n (pc := 1) (i := 3) (ls' := [(3, .int v1), (0, .ref 34), (1, .int v1), (2, .int v2)]) dX0_numberOf_1 rfl (Nat.le_of_ble_eq_true rfl) rfl ?_
  refine z_iconst (pc := 2) dX0_numberOf_2 ki_0 ?_
  refine z_istore (pc := 3) (i := 4) (ls' := [(4, .int 0), (3, .int v1), (0, .ref 34), (1, .int v1), (2, .int v2)]) dX0_numberOf_3 (Nat.le_of_ble_eq_true rfl) rfl ?_
  exact z_pick [4, 1, 0] rfl (b_X0_numberOf_L5 e hd v2 v1 0 m (K := K) hf hK  h0)
set_option maxHeartbeats 4000000 in
set_option maxRecDepth 100000 in
theorem c_X0_numberOf (d : Nat) (hd : 1 ≤ d) (v1 : Int32) (v2 : Int32) (m : ej_M) {q : (Int32 × ej_M)} (hf : f_X0_numberOf v1 v2 m = some q) : ej_Ct yX0_numberOf cX0_numberOf 6 (some .int) d [.ref 34, .int v1, .int v2] (ej_sh, m) ((some (Value.int q.1), (ej_sh, q.2)) : Option Value × ej_H) := by
  obtain ⟨e, rfl⟩ : ∃ e, d = e + 1 := ⟨d - 1, by omega⟩
  exact z_met (by decide +kernel) (Nat.le_of_ble_eq_true rfl) (b_X0_numberOf e (by omega) v1 v2 m (K := fun z => ((some (Value.int q.1), (ej_sh, q.2)) : Option Value × ej_H) = (some (Value.int z.1), (ej_sh, z.2))) hf rfl (fun _ h => h))
