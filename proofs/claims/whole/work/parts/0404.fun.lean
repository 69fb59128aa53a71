def f_X11_figure_B74 (v1 : Int32) (m : ej_M) : Option (Unit × ej_M) :=
  (f_X11_addStep 1 v1 m).bind fun q1 =>
  some ((), q1.2)
set_option maxHeartbeats 4000000 in
set_option maxRecDepth 100000 in
theorem b_X11_figure_B74 (e : Nat) (hd : 0 ≤ e) (v1 : Int32) (m : ej_M) {x : (Unit × ej_M)} {res : Option Value × ej_H} {K : (Unit × ej_M) → Prop} (hf : f_X11_figure_B74 v1 m = some x) (hK : K x) (h0 : ∀ q : (Unit × ej_M), K q → res = (none, (ej_sh, q.2))) : ej_Z cX11_figure 3 none RX11 "figure" (e + 1) 74 [(0, .ref 41), (1, .int v1)] [] (ej_sh, m) res := by
  unfold f_X11_figure_B74 at hf
  refine z_aload_n (pc := 74) (i := 0) (j := 0) dX11_figure_74 rfl rfl ?_
  refine z_iconst (pc := 75) dX11_figure_75 ki_1 ?_
  refine z_iload_n (pc := 76) (i := 1) (j := 1) dX11_figure_76 rfl rfl ?_
  obtain ⟨q1, hq1, hf⟩ := Option.bind_eq_some_iff.mp hf
  refine z_oVv (pc := 77) (as := [.int 1, .int v1]) (rest := []) dX11_figure_77 lm_RX11_165 mf_X11_addStep mi_X11_addStep mv_X11_addStep rc_41 rfl rfl (Nat.le_of_ble_eq_true rfl) (c_X11_addStep e (by omega) 1 v1 m hq1) ?_
  obtain rfl := Option.some.inj hf
  rw [h0 _ hK]
  exact z_ret dX11_figure_80 rfl
def f_X11_figure_B70 (v1 : Int32) (m : ej_M) : Option (Unit × ej_M) :=
  (f_X11_faulty m).bind fun q1 =>
  f_X11_figure_B74 v1 q1.2
set_option maxHeartbeats 4000000 in
set_option maxRecDepth 100000 in
theorem b_X11_figure_B70 (e : Nat) (hd : 0 ≤ e) (v1 : Int32) (m : ej_M) {x : (Unit × ej_M)} {res : Option Value × ej_H} {K : (Unit × ej_M) → Prop} (hf : f_X11_figure_B70 v1 m = some x) (hK : K x) (h0 : ∀ q : (Unit × ej_M), K q → res = (none, (ej_sh, q.2))) : ej_Z cX11_figure 3 none RX11 "figure" (e + 1) 70 [(0, .ref 41), (1, .int v1)] [] (ej_sh, m) res := by
  unfold f_X11_figure_B70 at hf
  refine z_aload_n (pc := 70) (i := 0) (j := 0) dX11_figure_70 rfl rfl ?_
  obtain ⟨q1, hq1, hf⟩ := Option.bind_eq_some_iff.mp hf
  refine z_oVv (pc := 71) (as := []) (rest := []) dX11_figure_71 lm_RX11_158 mf_X11_faulty mi_X11_faulty mv_X11_faulty rc_41 rfl rfl (Nat.le_of_ble_eq_true rfl) (c_X11_faulty e (by omega) m hq1) ?_
  exact z_pick [0, 1] rfl (b_X11_figure_B74 e hd v1 q1.2 (K := K) hf hK  h0)
def f_X11_figure_B52 (v1 : Int32) (v2 : Int32) (m : ej_M) : Option (Unit × ej_M) :=
  if v2 = 0 then
    f_X11_figure_B70 v1 m
  else
    (f_X11_look m).bind fun q1 =>
    (f_X11_in q1.1 48 57 q1.2).bind fun q2 =>
    if q2.1 = 0 then
      f_X11_figure_B74 v1 q2.2
    else
      f_X11_figure_B70 v1 q2.2
set_option maxHeartbeats 4000000 in
set_option maxRecDepth 100000 in
theorem b_X11_figure_B52 (e : Nat) (hd : 0 ≤ e) (v1 : Int32) (v2 : Int32) (m : ej_M) {x : (Unit × ej_M)} {res : Option Value × ej_H} {K : (Unit × ej_M) → Prop} (hf : f_X11_figure_B52 v1 v2 m = some x) (hK : K x) (h0 : ∀ q : (Unit × ej_M), K q → res = (none, (ej_sh, q.2))) : ej_Z cX11_figure 3 none RX11 "figure" (e + 1) 52 [(0, .ref 41), (1, .int v1), (2, .int v2)] [] (ej_sh, m) res := by
  unfold f_X11_figure_B52 at hf
  refine z_iload_n (pc := 52) (i := 2) (j := 2) dX11_figure_52 rfl rfl ?_
  refine z_if_eq (pc := 53) (tgt := 70) dX11_figure_53 (by decide) (fun hc => ?_) (fun hc => ?_)
  · rw [if_pos hc] at hf
    exact z_pick [0, 1] rfl (b_X11_figure_B70 e hd v1 m (K := K) hf hK  h0)
  · rw [if_neg hc] at hf
    refine z_aload_n (pc := 56) (i := 0) (j := 0) dX11_figure_56 rfl rfl ?_
    obtain ⟨q1, hq1, hf⟩ := Option.bind_eq_some_iff.mp hf
    refine z_oVi (pc := 57) (as := []) (rest := []) dX11_figure_57 lm_RX11_161 mf_X11_look mi_X11_look mv_X11_look rc_41 rfl rfl (Nat.le_of_ble_eq_true rfl) (c_X11_look e (by omega) m hq1) ?_
    refine z_bipush (pc := 60) dX11_figure_60 kb_48 ?_
    refine z_bipush (pc := 62) dX11_figure_62 kb_57 ?_
    obtain ⟨q2, hq2, hf⟩ := Option.bind_eq_some_iff.mp hf
    refine z_oSi (pc := 64) (as := [.int q1.1, .int 48, .int 57]) (rest := []) dX11_figure_64 lm_RX11_104 mf_X11_in ms_X11_in rfl rfl (Nat.le_of_ble_eq_true rfl) (c_X11_in e (by omega) q1.1 48 57 q1.2 hq2) ?_
    refine z_if_eq (pc := 67) (tgt := 74) dX11_figure_67 (by decide) (fun hc => ?_) (fun hc => ?_)
    · rw [if_pos hc] at hf
      exact z_pick [0, 1] rfl (b_X11_figure_B74 e hd v1 q2.2 (K := K) hf hK  h0)
    · rw [if_neg hc] at hf
      exact z_pick [0, 1] rfl (b_X11_figure_B70 e hd v1 q2.2 (K := K) hf hK  h0)
def f_X11_figure_L4b (v1 : Int32) (v2 : Int32) (m : ej_M) : Option ((Int32 × Int32 × ej_M) ⊕ (Unit × ej_M)) :=
  if 4 ≤ v2 then
    (f_X11_figure_B52 v1 v2 m).map fun y => (Sum.inr y)
  else
    (f_X11_look m).bind fun q1 =>
    (f_X11_in q1.1 48 57 q1.2).bind fun q2 =>
    if q2.1 = 0 then
      (f_X11_figure_B52 v1 v2 q2.2).map fun y => (Sum.inr y)
    else
      (f_X11_look q2.2).bind fun q3 =>
      (oj_pf q3.2 41 16 ((q3.2.1 41 16) + 1)).bind fun m4 =>
      some (Sum.inl ((((10 * v1) + q3.1) - 48), (v2 + 1), m4))
set_option maxHeartbeats 4000000 in
set_option maxRecDepth 100000 in
theorem b_X11_figure_L4b (e : Nat) (hd : 0 ≤ e) (v1 : Int32) (v2 : Int32) (m : ej_M) {x : ((Int32 × Int32 × ej_M) ⊕ (Unit × ej_M))} {res : Option Value × ej_H} {K : ((Int32 × Int32 × ej_M) ⊕ (Unit × ej_M)) → Prop} (hf : f_X11_figure_L4b v1 v2 m = some x) (hK : K x) (h1 : ∀ q : (Int32 × Int32 × ej_M), K (Sum.inl q) → ej_Z cX11_figure 3 none RX11 "figure" (e + 1) 4 [(0, .ref 41), (1, .int q.1), (2, .int q.2.1)] [] (ej_sh, q.2.2) res) (h0 : ∀ q : (Unit × ej_M), K (Sum.inr q) → res = (none, (ej_sh, q.2))) : ej_Z cX11_figure 3 none RX11 "figure" (e + 1) 4 [(0, .ref 41), (1, .int v1), (2, .int v2)] [] (ej_sh, m) res := by
  unfold f_X11_figure_L4b at hf
  refine z_iload_n (pc := 4) (i := 2) (j := 2) dX11_figure_4 rfl rfl ?_
  refine z_iconst (pc := 5) dX11_figure_5 ki_4 ?_
  refine z_icmp_ge (pc := 6) (tgt := 52) dX11_figure_6 (by decide) (fun hc => ?_) (fun hc => ?_)
  · rw [if_pos hc] at hf
    obtain ⟨y, hy, hxy⟩ := Option.map_eq_some_iff.mp hf
    subst hxy
    exact z_pick [0, 1, 2] rfl (b_X11_figure_B52 e hd v1 v2 m (K := fun y => K (Sum.inr y)) hy hK  h0)
  · rw [if_neg hc] at hf
    refine z_aload_n (pc := 9) (i := 0) (j := 0) dX11_figure_9 rfl rfl ?_
    obtain ⟨q1, hq1, hf⟩ := Option.bind_eq_some_iff.mp hf
    refine z_oVi (pc := 10) (as := []) (rest := []) dX11_figure_10 lm_RX11_161 mf_X11_look mi_X11_look mv_X11_look rc_41 rfl rfl (Nat.le_of_ble_eq_true rfl) (c_X11_look e (by omega) m hq1) ?_
    refine z_bipush (pc := 13) dX11_figure_13 kb_48 ?_
    refine z_bipush (pc := 15) dX11_figure_15 kb_57 ?_
    obtain ⟨q2, hq2, hf⟩ := Option.bind_eq_some_iff.mp hf
    refine z_oSi (pc := 17) (as := [.int q1.1, .int 48, .int 57]) (rest := []) dX11_figure_17 lm_RX11_104 mf_X11_in ms_X11_in rfl rfl (Nat.le_of_ble_eq_true rfl) (c_X11_in e (by omega) q1.1 48 57 q1.2 hq2) ?_
    refine z_if_eq (pc := 20) (tgt := 52) dX11_figure_20 (by decide) (fun hc => ?_) (fun hc => ?_)
    · rw [if_pos hc] at hf
      obtain ⟨y, hy, hxy⟩ := Option.map_eq_some_iff.mp hf
      subst hxy
      exact z_pick [0, 1, 2] rfl (b_X11_figure_B52 e hd v1 v2 q2.2 (K := fun y => K (Sum.inr y)) hy hK  h0)
    · rw [if_neg hc] at hf
      refine z_bipush (pc := 23) dX11_figure_23 kb_10 ?_
      refine z_iload_n (pc := 25) (i := 1) (j := 1) dX11_figure_25 rfl rfl ?_
      refine z_imul (pc := 26) dX11_figure_26 ?_
      refine z_aload_n (pc := 27) (i := 0) (j := 0) dX11_figure_27 rfl rfl ?_
      obtain ⟨q3, hq3, hf⟩ := Option.bind_eq_some_iff.mp hf
      refine z_oVi (pc := 28) (as := []) (rest := [.int (10 * v1)]) dX11_figure_28 lm_RX11_161 mf_X11_look mi_X11_look mv_X11_look rc_41 rfl rfl (Nat.le_of_ble_eq_true rfl) (c_X11_look e (by omega) q2.2 hq3) ?_
      refine z_iadd (pc := 31) dX11_figure_31 ?_
      refine z_bipush (pc := 32) dX11_figure_32 kb_48 ?_
      refine z_isub (pc := 34) dX11_figure_34 ?_
      refine z_istore_n (pc := 35) (i := 1) (ls' := [(1, .int (((10 * v1) + q3.1) - 48)), (0, .ref 41), (2, .int v2)]) dX11_figure_35 rfl (Nat.le_of_ble_eq_true rfl) rfl ?_
      refine z_iinc (pc := 36) (j := 2) (ls' := [(2, .int (v2 + 1)), (1, .int (((10 * v1) + q3.1) - 48)), (0, .ref 41)]) dX11_figure_36 rfl ki_1 (Nat.le_of_ble_eq_true rfl) rfl ?_
      refine z_aload_n (pc := 39) (i := 0) (j := 2) dX11_figure_39 rfl rfl ?_
      refine z_dup (pc := 40) dX11_figure_40 rfl ?_
      refine z_ogetI (pc := 41) dX11_figure_41 lf_RX11_146 sh_41 rfl rfl ?_
      refine z_iconst (pc := 44) dX11_figure_44 ki_1 ?_
      refine z_iadd (pc := 45) dX11_figure_45 ?_
      obtain ⟨m4, hm4, hf⟩ := Option.bind_eq_some_iff.mp hf
      refine z_oputI (pc := 46) dX11_figure_46 lf_RX11_146 sh_41 rfl hm4 ?_
      refine z_goto (pc := 49) (tgt := 4) dX11_figure_49 (by decide) ?_
      obtain rfl := Option.some.inj hf
      exact z_pick (ls' := [(0, .ref 41), (1, .int (((10 * v1) + q3.1) - 48)), (2, .int (v2 + 1))]) [2, 1, 0] rfl (h1 ((((10 * v1) + q3.1) - 48), (v2 + 1), m4) hK)
def f_X11_figure_L4 (v1 : Int32) (v2 : Int32) (m : ej_M) : Option (Unit × ej_M) := oj_loop (fun q : (Int32 × Int32 × ej_M) => f_X11_figure_L4b q.1 q.2.1 q.2.2) oj_FU (v1, v2, m)
set_option maxHeartbeats 4000000 in
set_option maxRecDepth 100000 in
theorem b_X11_figure_L4 (e : Nat) (hd : 0 ≤ e) (v1 : Int32) (v2 : Int32) (m : ej_M) {x : (Unit × ej_M)} {res : Option Value × ej_H} {K : (Unit × ej_M) → Prop} (hf : f_X11_figure_L4 v1 v2 m = some x) (hK : K x) (h0 : ∀ q : (Unit × ej_M), K q → res = (none, (ej_sh, q.2))) : ej_Z cX11_figure 3 none RX11 "figure" (e + 1) 4 [(0, .ref 41), (1, .int v1), (2, .int v2)] [] (ej_sh, m) res :=
  oj_loop_Z (body := fun q : (Int32 × Int32 × ej_M) => f_X11_figure_L4b q.1 q.2.1 q.2.2) (P := fun q : (Int32 × Int32 × ej_M) => ej_Z cX11_figure 3 none RX11 "figure" (e + 1) 4 [(0, .ref 41), (1, .int q.1), (2, .int q.2.1)] [] (ej_sh, q.2.2) res) (K := K) (fun s x hb hl hr => b_X11_figure_L4b e hd  s.1 s.2.1 s.2.2 (K := fun x => (∀ s' : (Int32 × Int32 × ej_M), x = Sum.inl s' → ej_Z cX11_figure 3 none RX11 "figure" (e + 1) 4 [(0, .ref 41), (1, .int s'.1), (2, .int s'.2.1)] [] (ej_sh, s'.2.2) res) ∧ ∀ e, x = Sum.inr e → K e) hb ⟨hl, hr⟩ (fun q hq => hq.1 q rfl) (fun q hq => h0 q (hq.2 _ rfl))) oj_FU (v1, v2, m) x hf hK
def f_X11_figure  (m : ej_M) : Option (Unit × ej_M) :=
  f_X11_figure_L4 0 0 m
set_option maxHeartbeats 4000000 in
set_option maxRecDepth 100000 in
theorem b_X11_figure (e : Nat) (hd : 0 ≤ e)  (m : ej_M) {x : (Unit × ej_M)} {res : Option Value × ej_H} {K : (Unit × ej_M) → Prop} (hf : f_X11_figure  m = some x) (hK : K x) (h0 : ∀ q : (Unit × ej_M), K q → res = (none, (ej_sh, q.2))) : ej_Z cX11_figure 3 none RX11 "figure" (e + 1) 0 [(0, .ref 41)] [] (ej_sh, m) res := by
  unfold f_X11_figure at hf
  refine z_iconst (pc := 0) dX11_figure_0 ki_0 ?_
  refine z_istore_n (pc := 1) (i := 1) (ls' := [(1, .int 0), (0, .ref 41)]) dX11_figure_1 rfl (Nat.le_of_ble_eq_true rfl) rfl ?_
  refine z_iconst (pc := 2) dX11_figure_2 ki_0 ?_
  refine z_istore_n (pc := 3) (i := 2) (ls' := [(2, .int 0), (1, .int 0), (0, .ref 41)]) dX11_figure_3 rfl (Nat.le_of_ble_eq_true rfl) rfl ?_
  exact z_pick [2, 1, 0] rfl (b_X11_figure_L4 e hd 0 0 m (K := K) hf hK  h0)
set_option maxHeartbeats 4000000 in
set_option maxRecDepth 100000 in
theorem c_X11_figure (d : Nat) (hd : 1 ≤ d)  (m : ej_M) {q : (Unit × ej_M)} (hf : f_X11_figure  m = some q) : ej_Ct yX11_figure cX11_figure 3 none d [.ref 41] (ej_sh, m) ((none, (ej_sh, q.2)) : Option Value × ej_H) := by
  obtain ⟨e, rfl⟩ : ∃ e, d = e + 1 := ⟨d - 1, by omega⟩
  exact z_met (by decide +kernel) (Nat.le_of_ble_eq_true rfl) (b_X11_figure e (by omega)  m (K := fun z => ((none, (ej_sh, q.2)) : Option Value × ej_H) = (none, (ej_sh, z.2))) hf rfl (fun _ h => h))
def f_X11_nameOf (v0 : Int32) (m : ej_M) : Option (Int32 × ej_M) :=
  if v0 = 107 then
    some (3, m)
  else
    if v0 = 108 then
      some (1, m)
    else
      if v0 = 110 then
        some (4, m)
      else
        if v0 = 114 then
          some (2, m)
        else
          if v0 = 115 then
            some (5, m)
          else
            if v0 = 119 then
              some (0, m)
            else
              some ((-1), m)
set_option maxHeartbeats 4000000 in
set_option maxRecDepth 100000 in
theorem b_X11_nameOf (d : Nat) (v0 : Int32) (m : ej_M) {x : (Int32 × ej_M)} {res : Option Value × ej_H} {K : (Int32 × ej_M) → Prop} (hf : f_X11_nameOf v0 m = some x) (hK : K x) (h0 : ∀ q : (Int32 × ej_M), K q → res = (some (Value.int q.1), (ej_sh, q.2))) : ej_Z cX11_nameOf 1 (some .int) RX11 "nameOf" d 0 [(0, .int v0)] [] (ej_sh, m) res := by
  unfold f_X11_nameOf at hf
  refine z_iload_n (pc := 0) (i := 0) (j := 0) dX11_nameOf_0 rfl rfl ?_
  by_cases hs107 : v0 = 107
  · rw [if_pos hs107] at hf
    refine z_tabIn (pc := 1) (off := 73) (tgt := 74) dX11_nameOf_1 (by rw [hs107]; decide) (by rw [hs107]; decide) (by rw [hs107]; rfl) (by decide) ?_
    refine z_iconst (pc := 74) dX11_nameOf_74 ki_3 ?_
    obtain rfl := Option.some.inj hf
    rw [h0 _ hK]
    exact z_iret dX11_nameOf_75 rfl rfl
  · rw [if_neg hs107] at hf
    by_cases hs108 : v0 = 108
    · rw [if_pos hs108] at hf
      refine z_tabIn (pc := 1) (off := 69) (tgt := 70) dX11_nameOf_1 (by rw [hs108]; decide) (by rw [hs108]; decide) (by rw [hs108]; rfl) (by decide) ?_
      refine z_iconst (pc := 70) dX11_nameOf_70 ki_1 ?_
      obtain rfl := Option.some.inj hf
      rw [h0 _ hK]
      exact z_iret dX11_nameOf_71 rfl rfl
    · rw [if_neg hs108] at hf
      by_cases hs110 : v0 = 110
      · rw [if_pos hs110] at hf
        refine z_tabIn (pc := 1) (off := 75) (tgt := 76) dX11_nameOf_1 (by rw [hs110]; decide) (by rw [hs110]; decide) (by rw [hs110]; rfl) (by decide) ?_
        refine z_iconst (pc := 76) dX11_nameOf_76 ki_4 ?_
        obtain rfl := Option.some.inj hf
        rw [h0 _ hK]
        exact z_iret dX11_nameOf_77 rfl rfl
      · rw [if_neg hs110] at hf
        by_cases hs114 : v0 = 114
        · rw [if_pos hs114] at hf
          refine z_tabIn (pc := 1) (off := 71) (tgt := 72) dX11_nameOf_1 (by rw [hs114]; decide) (by rw [hs114]; decide) (by rw [hs114]; rfl) (by decide) ?_
          refine z_iconst (pc := 72) dX11_nameOf_72 ki_2 ?_
          obtain rfl := Option.some.inj hf
          rw [h0 _ hK]
          exact z_iret dX11_nameOf_73 rfl rfl
        · rw [if_neg hs114] at hf
          by_cases hs115 : v0 = 115
          · rw [if_pos hs115] at hf
            refine z_tabIn (pc := 1) (off := 77) (tgt := 78) dX11_nameOf_1 (by rw [hs115]; decide) (by rw [hs115]; decide) (by rw [hs115]; rfl) (by decide) ?_
            refine z_iconst (pc := 78) dX11_nameOf_78 ki_5 ?_
            obtain rfl := Option.some.inj hf
            rw [h0 _ hK]
            exact z_iret dX11_nameOf_79 rfl rfl
          · rw [if_neg hs115] at hf
            by_cases hs119 : v0 = 119
            · rw [if_pos hs119] at hf
              refine z_tabIn (pc := 1) (off := 67) (tgt := 68) dX11_nameOf_1 (by rw [hs119]; decide) (by rw [hs119]; decide) (by rw [hs119]; rfl) (by decide) ?_
              refine z_iconst (pc := 68) dX11_nameOf_68 ki_0 ?_
              obtain rfl := Option.some.inj hf
              rw [h0 _ hK]
              exact z_iret dX11_nameOf_69 rfl rfl
            · rw [if_neg hs119] at hf
              refine z_tabD (pc := 1) (tgt := 80) dX11_nameOf_1 (by decide) (fun k hk => ?_) (by decide) ?_
              · have hk9 : k = 0 ∨ k = 1 ∨ k = 2 ∨ k = 3 ∨ k = 4 ∨ k = 5 ∨ k = 6 ∨ k = 7 ∨ k = 8 ∨ k = 9 ∨ k = 10 ∨ k = 11 ∨ k = 12 := by have hk8 : k < 13 := hk; omega
                rcases hk9 with rfl | rfl | rfl | rfl | rfl | rfl | rfl | rfl | rfl | rfl | rfl | rfl | rfl
                · exact Or.inr (by have := lv_neT hs107 (show (107 : Int32).toInt = 107 by decide); omega)
                · exact Or.inr (by have := lv_neT hs108 (show (108 : Int32).toInt = 108 by decide); omega)
                · exact Or.inl rfl
                · exact Or.inr (by have := lv_neT hs110 (show (110 : Int32).toInt = 110 by decide); omega)
                · exact Or.inl rfl
                · exact Or.inl rfl
                · exact Or.inl rfl
                · exact Or.inr (by have := lv_neT hs114 (show (114 : Int32).toInt = 114 by decide); omega)
                · exact Or.inr (by have := lv_neT hs115 (show (115 : Int32).toInt = 115 by decide); omega)
                · exact Or.inl rfl
                · exact Or.inl rfl
                · exact Or.inl rfl
                · exact Or.inr (by have := lv_neT hs119 (show (119 : Int32).toInt = 119 by decide); omega)
              refine z_iconst (pc := 80) dX11_nameOf_80 ki_n1 ?_
              obtain rfl := Option.some.inj hf
              rw [h0 _ hK]
              exact z_iret dX11_nameOf_81 rfl rfl
set_option maxHeartbeats 4000000 in
set_option maxRecDepth 100000 in
theorem c_X11_nameOf (d : Nat) (hd : 0 ≤ d) (v0 : Int32) (m : ej_M) {q : (Int32 × ej_M)} (hf : f_X11_nameOf v0 m = some q) : ej_Ct yX11_nameOf cX11_nameOf 1 (some .int) d [.int v0] (ej_sh, m) ((some (Value.int q.1), (ej_sh, q.2)) : Option Value × ej_H) := by
  exact z_met (by decide +kernel) (Nat.le_of_ble_eq_true rfl) (b_X11_nameOf d v0 m (K := fun z => ((some (Value.int q.1), (ej_sh, q.2)) : Option Value × ej_H) = (some (Value.int z.1), (ej_sh, z.2))) hf rfl (fun _ h => h))
def f_X11_opens  (m : ej_M) : Option (Int32 × ej_M) :=
  if (m.1 41 18) = 6 then
    (f_X11_faulty m).bind fun q3 =>
    some (0, q3.2)
  else
    (oj_pf m 41 18 ((m.1 41 18) + 1)).bind fun m1 =>
    (oj_pf m1 41 16 ((m1.1 41 16) + 1)).bind fun m2 =>
    some (1, m2)
set_option maxHeartbeats 4000000 in
set_option maxRecDepth 100000 in
theorem b_X11_opens (e : Nat) (hd : 0 ≤ e)  (m : ej_M) {x : (Int32 × ej_M)} {res : Option Value × ej_H} {K : (Int32 × ej_M) → Prop} (hf : f_X11_opens  m = some x) (hK : K x) (h0 : ∀ q : (Int32 × ej_M), K q → res = (some (Value.int q.1), (ej_sh, q.2))) : ej_Z cX11_opens 1 (some .boolean) RX11 "opens" (e + 1) 0 [(0, .ref 41)] [] (ej_sh, m) res := by
  unfold f_X11_opens at hf
  refine z_aload_n (pc := 0) (i := 0) (j := 0) dX11_opens_0 rfl rfl ?_
  refine z_ogetI (pc := 1) dX11_opens_1 lf_RX11_155 sh_41 rfl rfl ?_
  refine z_bipush (pc := 4) dX11_opens_4 kb_6 ?_
  refine z_icmp_ne (pc := 6) (tgt := 15) dX11_opens_6 (by decide) (fun hc => ?_) (fun hc => ?_)
  · rw [if_neg hc] at hf
    refine z_aload_n (pc := 15) (i := 0) (j := 0) dX11_opens_15 rfl rfl ?_
    refine z_dup (pc := 16) dX11_opens_16 rfl ?_
    refine z_ogetI (pc := 17) dX11_opens_17 lf_RX11_155 sh_41 rfl rfl ?_
    refine z_iconst (pc := 20) dX11_opens_20 ki_1 ?_
    refine z_iadd (pc := 21) dX11_opens_21 ?_
    obtain ⟨m1, hm1, hf⟩ := Option.bind_eq_some_iff.mp hf
    refine z_oputI (pc := 22) dX11_opens_22 lf_RX11_155 sh_41 rfl hm1 ?_
    refine z_aload_n (pc := 25) (i := 0) (j := 0) dX11_opens_25 rfl rfl ?_
    refine z_dup (pc := 26) dX11_opens_26 rfl ?_
    refine z_ogetI (pc := 27) dX11_opens_27 lf_RX11_146 sh_41 rfl rfl ?_
    refine z_iconst (pc := 30) dX11_opens_30 ki_1 ?_
    refine z_iadd (pc := 31) dX11_opens_31 ?_
    obtain ⟨m2, hm2, hf⟩ := Option.bind_eq_some_iff.mp hf
    refine z_oputI (pc := 32) dX11_opens_32 lf_RX11_146 sh_41 rfl hm2 ?_
    refine z_iconst (pc := 35) dX11_opens_35 ki_1 ?_
    obtain rfl := Option.some.inj hf
    rw [h0 _ hK]
    exact z_iret dX11_opens_36 rfl rfl
  · rw [if_pos hc] at hf
    refine z_aload_n (pc := 9) (i := 0) (j := 0) dX11_opens_9 rfl rfl ?_
    obtain ⟨q3, hq3, hf⟩ := Option.bind_eq_some_iff.mp hf
    refine z_oVv (pc := 10) (as := []) (rest := []) dX11_opens_10 lm_RX11_158 mf_X11_faulty mi_X11_faulty mv_X11_faulty rc_41 rfl rfl (Nat.le_of_ble_eq_true rfl) (c_X11_faulty e (by omega) m hq3) ?_
    refine z_iconst (pc := 13) dX11_opens_13 ki_0 ?_
    obtain rfl := Option.some.inj hf
    rw [h0 _ hK]
    exact z_iret dX11_opens_14 rfl rfl
set_option maxHeartbeats 4000000 in
set_option maxRecDepth 100000 in
theorem c_X11_opens (d : Nat) (hd : 1 ≤ d)  (m : ej_M) {q : (Int32 × ej_M)} (hf : f_X11_opens  m = some q) : ej_Ct yX11_opens cX11_opens 1 (some .boolean) d [.ref 41] (ej_sh, m) ((some (Value.int q.1), (ej_sh, q.2)) : Option Value × ej_H) := by
  obtain ⟨e, rfl⟩ : ∃ e, d = e + 1 := ⟨d - 1, by omega⟩
  exact z_met (by decide +kernel) (Nat.le_of_ble_eq_true rfl) (b_X11_opens e (by omega)  m (K := fun z => ((some (Value.int q.1), (ej_sh, q.2)) : Option Value × ej_H) = (some (Value.int z.1), (ej_sh, z.2))) hf rfl (fun _ h => h))
def Q_X11_either (Rf : (ej_M → Option (Unit × ej_M)) × (ej_M → Option (Unit × ej_M)) × (ej_M → Option (Unit × ej_M)) × (ej_M → Option (Unit × ej_M)) × (ej_M → Option (Unit × ej_M)) × (ej_M → Option (Unit × ej_M))) (e : Nat) : Prop := (∀  (m : ej_M) (q : (Unit × ej_M)), Rf.1  m = some q → ej_Ct yX11_either cX11_either 1 none e [.ref 41] (ej_sh, m) (none, (ej_sh, q.2))) ∧ (∀  (m : ej_M) (q : (Unit × ej_M)), Rf.2.1  m = some q → ej_Ct yX11_both cX11_both 1 none e [.ref 41] (ej_sh, m) (none, (ej_sh, q.2))) ∧ (∀  (m : ej_M) (q : (Unit × ej_M)), Rf.2.2.1  m = some q → ej_Ct yX11_compared cX11_compared 2 none e [.ref 41] (ej_sh, m) (none, (ej_sh, q.2))) ∧ (∀  (m : ej_M) (q : (Unit × ej_M)), Rf.2.2.2.1  m = some q → ej_Ct yX11_sum cX11_sum 2 none e [.ref 41] (ej_sh, m) (none, (ej_sh, q.2))) ∧ (∀  (m : ej_M) (q : (Unit × ej_M)), Rf.2.2.2.2.1  m = some q → ej_Ct yX11_product cX11_product 2 none e [.ref 41] (ej_sh, m) (none, (ej_sh, q.2))) ∧ (∀  (m : ej_M) (q : (Unit × ej_M)), Rf.2.2.2.2.2  m = some q → ej_Ct yX11_operand cX11_operand 2 none e [.ref 41] (ej_sh, m) (none, (ej_sh, q.2)))
def f_X11_either_L4b (Rf : ((ej_M → Option (Unit × ej_M)) × (ej_M → Option (Unit × ej_M)) × (ej_M → Option (Unit × ej_M)) × (ej_M → Option (Unit × ej_M)) × (ej_M → Option (Unit × ej_M)) × (ej_M → Option (Unit × ej_M))))  (m : ej_M) : Option ((ej_M) ⊕ (Unit × ej_M)) :=
  if 0 ≤ (m.1 41 17) then
    some (Sum.inr ((), m))
  else
    (f_X11_look m).bind fun q1 =>
    if q1.1 = 124 then
      (oj_pf q1.2 41 16 ((q1.2.1 41 16) + 1)).bind fun m2 =>
      (Rf.2.1 m2).bind fun q3 =>
      (f_X11_addStep 124 0 q3.2).bind fun q4 =>
      some (Sum.inl (q4.2))
    else
      some (Sum.inr ((), q1.2))
set_option maxHeartbeats 4000000 in
set_option maxRecDepth 100000 in
theorem b_X11_either_L4b (e : Nat) (hd : 1 ≤ e) (Rf : ((ej_M → Option (Unit × ej_M)) × (ej_M → Option (Unit × ej_M)) × (ej_M → Option (Unit × ej_M)) × (ej_M → Option (Unit × ej_M)) × (ej_M → Option (Unit × ej_M)) × (ej_M → Option (Unit × ej_M)))) (hR : Q_X11_either Rf e)  (m : ej_M) {x : ((ej_M) ⊕ (Unit × ej_M))} {res : Option Value × ej_H} {K : ((ej_M) ⊕ (Unit × ej_M)) → Prop} (hf : f_X11_either_L4b Rf  m = some x) (hK : K x) (h1 : ∀ q : (ej_M), K (Sum.inl q) → ej_Z cX11_either 1 none RX11 "either" (e + 1) 4 [(0, .ref 41)] [] (ej_sh, q) res) (h0 : ∀ q : (Unit × ej_M), K (Sum.inr q) → res = (none, (ej_sh, q.2))) : ej_Z cX11_either 1 none RX11 "either" (e + 1) 4 [(0, .ref 41)] [] (ej_sh, m) res := by
  unfold f_X11_either_L4b at hf
  refine z_aload_n (pc := 4) (i := 0) (j := 0) dX11_either_4 rfl rfl ?_
  refine z_ogetI (pc := 5) dX11_either_5 lf_RX11_149 sh_41 rfl rfl ?_
  refine z_if_ge (pc := 8) (tgt := 44) dX11_either_8 (by decide) (fun hc => ?_) (fun hc => ?_)
  · rw [if_pos hc] at hf
    obtain rfl := Option.some.inj hf
    rw [h0 _ hK]
    exact z_ret dX11_either_44 rfl
  · rw [if_neg hc] at hf
    refine z_aload_n (pc := 11) (i := 0) (j := 0) dX11_either_11 rfl rfl ?_
    obtain ⟨q1, hq1, hf⟩ := Option.bind_eq_some_iff.mp hf
    refine z_oVi (pc := 12) (as := []) (rest := []) dX11_either_12 lm_RX11_161 mf_X11_look mi_X11_look mv_X11_look rc_41 rfl rfl (Nat.le_of_ble_eq_true rfl) (c_X11_look e (by omega) m hq1) ?_
    refine z_bipush (pc := 15) dX11_either_15 kb_124 ?_
    refine z_icmp_ne (pc := 17) (tgt := 44) dX11_either_17 (by decide) (fun hc => ?_) (fun hc => ?_)
    · rw [if_neg hc] at hf
      obtain rfl := Option.some.inj hf
      rw [h0 _ hK]
      exact z_ret dX11_either_44 rfl
    · rw [if_pos hc] at hf
      refine z_aload_n (pc := 20) (i := 0) (j := 0) dX11_either_20 rfl rfl ?_
      refine z_dup (pc := 21) dX11_either_21 rfl ?_
      refine z_ogetI (pc := 22) dX11_either_22 lf_RX11_146 sh_41 rfl rfl ?_
      refine z_iconst (pc := 25) dX11_either_25 ki_1 ?_
      refine z_iadd (pc := 26) dX11_either_26 ?_
      obtain ⟨m2, hm2, hf⟩ := Option.bind_eq_some_iff.mp hf
      refine z_oputI (pc := 27) dX11_either_27 lf_RX11_146 sh_41 rfl hm2 ?_
      refine z_aload_n (pc := 30) (i := 0) (j := 0) dX11_either_30 rfl rfl ?_
      obtain ⟨q3, hq3, hf⟩ := Option.bind_eq_some_iff.mp hf
      refine z_oVv (pc := 31) (as := []) (rest := []) dX11_either_31 lm_RX11_194 mf_X11_both mi_X11_both mv_X11_both rc_41 rfl rfl (Nat.le_of_ble_eq_true rfl) (hR.2.1 _ _ hq3) ?_
      refine z_aload_n (pc := 34) (i := 0) (j := 0) dX11_either_34 rfl rfl ?_
      refine z_bipush (pc := 35) dX11_either_35 kb_124 ?_
      refine z_iconst (pc := 37) dX11_either_37 ki_0 ?_
      obtain ⟨q4, hq4, hf⟩ := Option.bind_eq_some_iff.mp hf
      refine z_oVv (pc := 38) (as := [.int 124, .int 0]) (rest := []) dX11_either_38 lm_RX11_165 mf_X11_addStep mi_X11_addStep mv_X11_addStep rc_41 rfl rfl (Nat.le_of_ble_eq_true rfl) (c_X11_addStep e (by omega) 124 0 q3.2 hq4) ?_
      refine z_goto (pc := 41) (tgt := 4) dX11_either_41 (by decide) ?_
      obtain rfl := Option.some.inj hf
      exact z_pick (ls' := [(0, .ref 41)]) [0] rfl (h1 (q4.2) hK)
def f_X11_either_L4 (Rf : ((ej_M → Option (Unit × ej_M)) × (ej_M → Option (Unit × ej_M)) × (ej_M → Option (Unit × ej_M)) × (ej_M → Option (Unit × ej_M)) × (ej_M → Option (Unit × ej_M)) × (ej_M → Option (Unit × ej_M))))  (m : ej_M) : Option (Unit × ej_M) := oj_loop (fun q : (ej_M) => f_X11_either_L4b Rf  q) oj_FU (m)
set_option maxHeartbeats 4000000 in
set_option maxRecDepth 100000 in
theorem b_X11_either_L4 (e : Nat) (hd : 1 ≤ e) (Rf : ((ej_M → Option (Unit × ej_M)) × (ej_M → Option (Unit × ej_M)) × (ej_M → Option (Unit × ej_M)) × (ej_M → Option (Unit × ej_M)) × (ej_M → Option (Unit × ej_M)) × (ej_M → Option (Unit × ej_M)))) (hR : Q_X11_either Rf e)  (m : ej_M) {x : (Unit × ej_M)} {res : Option Value × ej_H} {K : (Unit × ej_M) → Prop} (hf : f_X11_either_L4 Rf  m = some x) (hK : K x) (h0 : ∀ q : (Unit × ej_M), K q → res = (none, (ej_sh, q.2))) : ej_Z cX11_either 1 none RX11 "either" (e + 1) 4 [(0, .ref 41)] [] (ej_sh, m) res :=
  oj_loop_Z (body := fun q : (ej_M) => f_X11_either_L4b Rf  q) (P := fun q : (ej_M) => ej_Z cX11_either 1 none RX11 "either" (e + 1) 4 [(0, .ref 41)] [] (ej_sh, q) res) (K := K) (fun s x hb hl hr => b_X11_either_L4b e hd Rf hR  s (K := fun x => (∀ s' : (ej_M), x = Sum.inl s' → ej_Z cX11_either 1 none RX11 "either" (e + 1) 4 [(0, .ref 41)] [] (ej_sh, s') res) ∧ ∀ e, x = Sum.inr e → K e) hb ⟨hl, hr⟩ (fun q hq => hq.1 q rfl) (fun q hq => h0 q (hq.2 _ rfl))) oj_FU (m) x hf hK
def f_X11_either_e (Rf : ((ej_M → Option (Unit × ej_M)) × (ej_M → Option (Unit × ej_M)) × (ej_M → Option (Unit × ej_M)) × (ej_M → Option (Unit × ej_M)) × (ej_M → Option (Unit × ej_M)) × (ej_M → Option (Unit × ej_M))))  (m : ej_M) : Option (Unit × ej_M) :=
  (Rf.2.1 m).bind fun q1 =>
  f_X11_either_L4 Rf  q1.2
set_option maxHeartbeats 4000000 in
set_option maxRecDepth 100000 in
theorem b_X11_either_e (e : Nat) (hd : 1 ≤ e) (Rf : ((ej_M → Option (Unit × ej_M)) × (ej_M → Option (Unit × ej_M)) × (ej_M → Option (Unit × ej_M)) × (ej_M → Option (Unit × ej_M)) × (ej_M → Option (Unit × ej_M)) × (ej_M → Option (Unit × ej_M)))) (hR : Q_X11_either Rf e)  (m : ej_M) {x : (Unit × ej_M)} {res : Option Value × ej_H} {K : (Unit × ej_M) → Prop} (hf : f_X11_either_e Rf  m = some x) (hK : K x) (h0 : ∀ q : (Unit × ej_M), K q → res = (none, (ej_sh, q.2))) : ej_Z cX11_either 1 none RX11 "either" (e + 1) 0 [(0, .ref 41)] [] (ej_sh, m) res := by
  unfold f_X11_either_e at hf
  refine z_aload_n (pc := 0) (i := 0) (j := 0) dX11_either_0 rfl rfl ?_
  obtain ⟨q1, hq1, hf⟩ := Option.bind_eq_some_iff.mp hf
  refine z_oVv (pc := 1) (as := []) (rest := []) dX11_either_1 lm_RX11_194 mf_X11_both mi_X11_both mv_X11_both rc_41 rfl rfl (Nat.le_of_ble_eq_true rfl) (hR.2.1 _ _ hq1) ?_
  exact z_pick [0] rfl (b_X11_either_L4 e hd Rf hR  q1.2 (K := K) hf hK  h0)
def f_X11_both_L4b (Rf : ((ej_M → Option (Unit × ej_M)) × (ej_M → Option (Unit × ej_M)) × (ej_M → Option (Unit × ej_M)) × (ej_M → Option (Unit × ej_M)) × (ej_M → Option (Unit × ej_M)) × (ej_M → Option (Unit × ej_M))))  (m : ej_M) : Option ((ej_M) ⊕ (Unit × ej_M)) :=
  if 0 ≤ (m.1 41 17) then
    some (Sum.inr ((), m))
  else
    (f_X11_look m).bind fun q1 =>
    if q1.1 = 38 then
      (oj_pf q1.2 41 16 ((q1.2.1 41 16) + 1)).bind fun m2 =>
      (Rf.2.2.1 m2).bind fun q3 =>
      (f_X11_addStep 38 0 q3.2).bind fun q4 =>
      some (Sum.inl (q4.2))
    else
      some (Sum.inr ((), q1.2))
set_option maxHeartbeats 4000000 in
set_option maxRecDepth 100000 in
theorem b_X11_both_L4b (e : Nat) (hd : 1 ≤ e) (Rf : ((ej_M → Option (Unit × ej_M)) × (ej_M → Option (Unit × ej_M)) × (ej_M → Option (Unit × ej_M)) × (ej_M → Option (Unit × ej_M)) × (ej_M → Option (Unit × ej_M)) × (ej_M → Option (Unit × ej_M)))) (hR : Q_X11_either Rf e)  (m : ej_M) {x : ((ej_M) ⊕ (Unit × ej_M))} {res : Option Value × ej_H} {K : ((ej_M) ⊕ (Unit × ej_M)) → Prop} (hf : f_X11_both_L4b Rf  m = some x) (hK : K x) (h1 : ∀ q : (ej_M), K (Sum.inl q) → ej_Z cX11_both 1 none RX11 "both" (e + 1) 4 [(0, .ref 41)] [] (ej_sh, q) res) (h0 : ∀ q : (Unit × ej_M), K (Sum.inr q) → res = (none, (ej_sh, q.2))) : ej_Z cX11_both 1 none RX11 "both" (e + 1) 4 [(0, .ref 41)] [] (ej_sh, m) res := by
  unfold f_X11_both_L4b at hf
  refine z_aload_n (pc := 4) (i := 0) (j := 0) dX11_both_4 rfl rfl ?_
  refine z_ogetI (pc := 5) dX11_both_5 lf_RX11_149 sh_41 rfl rfl ?_
  refine z_if_ge (pc := 8) (tgt := 44) dX11_both_8 (by decide) (fun hc => ?_) (fun hc => ?_)
  · rw [if_pos hc] at hf
    obtain rfl := Option.some.inj hf
    rw [h0 _ hK]
    exact z_ret dX11_both_44 rfl
  · rw [if_neg hc] at hf
    refine z_aload_n (pc := 11) (i := 0) (j := 0) dX11_both_11 rfl rfl ?_
    obtain ⟨q1, hq1, hf⟩ := Option.bind_eq_some_iff.mp hf
    refine z_oVi (pc := 12) (as := []) (rest := []) dX11_both_12 lm_RX11_161 mf_X11_look mi_X11_look mv_X11_look rc_41 rfl rfl (Nat.le_of_ble_eq_true rfl) (c_X11_look e (by omega) m hq1) ?_
    refine z_bipush (pc := 15) dX11_both_15 kb_38 ?_
    refine z_icmp_ne (pc := 17) (tgt := 44) dX11_both_17 (by decide) (fun hc => ?_) (fun hc => ?_)
    · rw [if_neg hc] at hf
      obtain rfl := Option.some.inj hf
      rw [h0 _ hK]
      exact z_ret dX11_both_44 rfl
    · rw [if_pos hc] at hf
      refine z_aload_n (pc := 20) (i := 0) (j := 0) dX11_both_20 rfl rfl ?_
      refine z_dup (pc := 21) dX11_both_21 rfl ?_
      refine z_ogetI (pc := 22) dX11_both_22 lf_RX11_146 sh_41 rfl rfl ?_
      refine z_iconst (pc := 25) dX11_both_25 ki_1 ?_
      refine z_iadd (pc := 26) dX11_both_26 ?_
      obtain ⟨m2, hm2, hf⟩ := Option.bind_eq_some_iff.mp hf
      refine z_oputI (pc := 27) dX11_both_27 lf_RX11_146 sh_41 rfl hm2 ?_
      refine z_aload_n (pc := 30) (i := 0) (j := 0) dX11_both_30 rfl rfl ?_
      obtain ⟨q3, hq3, hf⟩ := Option.bind_eq_some_iff.mp hf
      refine z_oVv (pc := 31) (as := []) (rest := []) dX11_both_31 lm_RX11_191 mf_X11_compared mi_X11_compared mv_X11_compared rc_41 rfl rfl (Nat.le_of_ble_eq_true rfl) (hR.2.2.1 _ _ hq3) ?_
      refine z_aload_n (pc := 34) (i := 0) (j := 0) dX11_both_34 rfl rfl ?_
      refine z_bipush (pc := 35) dX11_both_35 kb_38 ?_
      refine z_iconst (pc := 37) dX11_both_37 ki_0 ?_
      obtain ⟨q4, hq4, hf⟩ := Option.bind_eq_some_iff.mp hf
      refine z_oVv (pc := 38) (as := [.int 38, .int 0]) (rest := []) dX11_both_38 lm_RX11_165 mf_X11_addStep mi_X11_addStep mv_X11_addStep rc_41 rfl rfl (Nat.le_of_ble_eq_true rfl) (c_X11_addStep e (by omega) 38 0 q3.2 hq4) ?_
      refine z_goto (pc := 41) (tgt := 4) dX11_both_41 (by decide) ?_
      obtain rfl := Option.some.inj hf
      exact z_pick (ls' := [(0, .ref 41)]) [0] rfl (h1 (q4.2) hK)
def f_X11_both_L4 (Rf : ((ej_M → Option (Unit × ej_M)) × (ej_M → Option (Unit × ej_M)) × (ej_M → Option (Unit × ej_M)) × (ej_M → Option (Unit × ej_M)) × (ej_M → Option (Unit × ej_M)) × (ej_M → Option (Unit × ej_M))))  (m : ej_M) : Option (Unit × ej_M) := oj_loop (fun q : (ej_M) => f_X11_both_L4b Rf  q) oj_FU (m)
set_option maxHeartbeats 4000000 in
set_option maxRecDepth 100000 in
theorem b_X11_both_L4 (e : Nat) (hd : 1 ≤ e) (Rf : ((ej_M → Option (Unit × ej_M)) × (ej_M → Option (Unit × ej_M)) × (ej_M → Option (Unit × ej_M)) × (ej_M → Option (Unit × ej_M)) × (ej_M → Option (Unit × ej_M)) × (ej_M → Option (Unit × ej_M)))) (hR : Q_X11_either Rf e)  (m : ej_M) {x : (Unit × ej_M)} {res : Option Value × ej_H} {K : (Unit × ej_M) → Prop} (hf : f_X11_both_L4 Rf  m = some x) (hK : K x) (h0 : ∀ q : (Unit × ej_M), K q → res = (none, (ej_sh, q.2))) : ej_Z cX11_both 1 none RX11 "both" (e + 1) 4 [(0, .ref 41)] [] (ej_sh, m) res :=
  oj_loop_Z (body := fun q : (ej_M) => f_X11_both_L4b Rf  q) (P := fun q : (ej_M) => ej_Z cX11_both 1 none RX11 "both" (e + 1) 4 [(0, .ref 41)] [] (ej_sh, q) res) (K := K) (fun s x hb hl hr => b_X11_both_L4b e hd Rf hR  s (K := fun x => (∀ s' : (ej_M), x = Sum.inl s' → ej_Z cX11_both 1 none RX11 "both" (e + 1) 4 [(0, .ref 41)] [] (ej_sh, s') res) ∧ ∀ e, x = Sum.inr e → K e) hb ⟨hl, hr⟩ (fun q hq => hq.1 q rfl) (fun q hq => h0 q (hq.2 _ rfl))) oj_FU (m) x hf hK
def f_X11_both_e (Rf : ((ej_M → Option (Unit × ej_M)) × (ej_M → Option (Unit × ej_M)) × (ej_M → Option (Unit × ej_M)) × (ej_M → Option (Unit × ej_M)) × (ej_M → Option (Unit × ej_M)) × (ej_M → Option (Unit × ej_M))))  (m : ej_M) : Option (Unit × ej_M) :=
  (Rf.2.2.1 m).bind fun q1 =>
  f_X11_both_L4 Rf  q1.2
set_option maxHeartbeats 4000000 in
set_option maxRecDepth 100000 in
theorem b_X11_both_e (e : Nat) (hd : 1 ≤ e) (Rf : ((ej_M → Option (Unit × ej_M)) × (ej_M → Option (Unit × ej_M)) × (ej_M → Option (Unit × ej_M)) × (ej_M → Option (Unit × ej_M)) × (ej_M → Option (Unit × ej_M)) × (ej_M → Option (Unit × ej_M)))) (hR : Q_X11_either Rf e)  (m : ej_M) {x : (Unit × ej_M)} {res : Option Value × ej_H} {K : (Unit × ej_M) → Prop} (hf : f_X11_both_e Rf  m = some x) (hK : K x) (h0 : ∀ q : (Unit × ej_M), K q → res = (none, (ej_sh, q.2))) : ej_Z cX11_both 1 none RX11 "both" (e + 1) 0 [(0, .ref 41)] [] (ej_sh, m) res := by
  unfold f_X11_both_e at hf
  refine z_aload_n (pc := 0) (i := 0) (j := 0) dX11_both_0 rfl rfl ?_
  obtain ⟨q1, hq1, hf⟩ := Option.bind_eq_some_iff.mp hf
  refine z_oVv (pc := 1) (as := []) (rest := []) dX11_both_1 lm_RX11_191 mf_X11_compared mi_X11_compared mv_X11_compared rc_41 rfl rfl (Nat.le_of_ble_eq_true rfl) (hR.2.2.1 _ _ hq1) ?_
  exact z_pick [0] rfl (b_X11_both_L4 e hd Rf hR  q1.2 (K := K) hf hK  h0)
def f_X11_compared_B35 (Rf : ((ej_M → Option (Unit × ej_M)) × (ej_M → Option (Unit × ej_M)) × (ej_M → Option (Unit × ej_M)) × (ej_M → Option (Unit × ej_M)) × (ej_M → Option (Unit × ej_M)) × (ej_M → Option (Unit × ej_M)))) (v1 : Int32) (m : ej_M) : Option (Unit × ej_M) :=
  (oj_pf m 41 16 ((m.1 41 16) + 1)).bind fun m1 =>
  (Rf.2.2.2.1 m1).bind fun q2 =>
  (f_X11_addStep v1 0 q2.2).bind fun q3 =>
  some ((), q3.2)
set_option maxHeartbeats 4000000 in
set_option maxRecDepth 100000 in
theorem b_X11_compared_B35 (e : Nat) (hd : 1 ≤ e) (Rf : ((ej_M → Option (Unit × ej_M)) × (ej_M → Option (Unit × ej_M)) × (ej_M → Option (Unit × ej_M)) × (ej_M → Option (Unit × ej_M)) × (ej_M → Option (Unit × ej_M)) × (ej_M → Option (Unit × ej_M)))) (hR : Q_X11_either Rf e) (v1 : Int32) (m : ej_M) {x : (Unit × ej_M)} {res : Option Value × ej_H} {K : (Unit × ej_M) → Prop} (hf : f_X11_compared_B35 Rf v1 m = some x) (hK : K x) (h0 : ∀ q : (Unit × ej_M), K q → res = (none, (ej_sh, q.2))) : ej_Z cX11_compared 2 none RX11 "compared" (e + 1) 35 [(0, .ref 41), (1, .int v1)] [] (ej_sh, m) res := by
  unfold f_X11_compared_B35 at hf
  refine z_aload_n (pc := 35) (i := 0) (j := 0) dX11_compared_35 rfl rfl ?_
  refine z_dup (pc := 36) dX11_compared_36 rfl ?_
  refine z_ogetI (pc := 37) dX11_compared_37 lf_RX11_146 sh_41 rfl rfl ?_
  refine z_iconst (pc := 40) dX11_compared_40 ki_1 ?_
  refine z_iadd (pc := 41) dX11_compared_41 ?_
  obtain ⟨m1, hm1, hf⟩ := Option.bind_eq_some_iff.mp hf
  refine z_oputI (pc := 42) dX11_compared_42 lf_RX11_146 sh_41 rfl hm1 ?_
  refine z_aload_n (pc := 45) (i := 0) (j := 0) dX11_compared_45 rfl rfl ?_
  obtain ⟨q2, hq2, hf⟩ := Option.bind_eq_some_iff.mp hf
  refine z_oVv (pc := 46) (as := []) (rest := []) dX11_compared_46 lm_RX11_188 mf_X11_sum mi_X11_sum mv_X11_sum rc_41 rfl rfl (Nat.le_of_ble_eq_true rfl) (hR.2.2.2.1 _ _ hq2) ?_
  refine z_aload_n (pc := 49) (i := 0) (j := 0) dX11_compared_49 rfl rfl ?_
  refine z_iload_n (pc := 50) (i := 1) (j := 1) dX11_compared_50 rfl rfl ?_
  refine z_iconst (pc := 51) dX11_compared_51 ki_0 ?_
  obtain ⟨q3, hq3, hf⟩ := Option.bind_eq_some_iff.mp hf
  refine z_oVv (pc := 52) (as := [.int v1, .int 0]) (rest := []) dX11_compared_52 lm_RX11_165 mf_X11_addStep mi_X11_addStep mv_X11_addStep rc_41 rfl rfl (Nat.le_of_ble_eq_true rfl) (c_X11_addStep e (by omega) v1 0 q2.2 hq3) ?_
  obtain rfl := Option.some.inj hf
  rw [h0 _ hK]
  exact z_ret dX11_compared_55 rfl
def f_X11_compared_e (Rf : ((ej_M → Option (Unit × ej_M)) × (ej_M → Option (Unit × ej_M)) × (ej_M → Option (Unit × ej_M)) × (ej_M → Option (Unit × ej_M)) × (ej_M → Option (Unit × ej_M)) × (ej_M → Option (Unit × ej_M))))  (m : ej_M) : Option (Unit × ej_M) :=
  (Rf.2.2.2.1 m).bind fun q1 =>
  (f_X11_look q1.2).bind fun q2 =>
  if 0 ≤ (q2.2.1 41 17) then
    some ((), q2.2)
  else
    if q2.1 = 60 then
      f_X11_compared_B35 Rf q2.1 q2.2
    else
      if q2.1 = 61 then
        f_X11_compared_B35 Rf q2.1 q2.2
      else
        if q2.1 = 62 then
          f_X11_compared_B35 Rf q2.1 q2.2
        else
          some ((), q2.2)
set_option maxHeartbeats 4000000 in
set_option maxRecDepth 100000 in
theorem b_X11_compared_e (e : Nat) (hd : 1 ≤ e) (Rf : ((ej_M → Option (Unit × ej_M)) × (ej_M → Option (Unit × ej_M)) × (ej_M → Option (Unit × ej_M)) × (ej_M → Option (Unit × ej_M)) × (ej_M → Option (Unit × ej_M)) × (ej_M → Option (Unit × ej_M)))) (hR : Q_X11_either Rf e)  (m : ej_M) {x : (Unit × ej_M)} {res : Option Value × ej_H} {K : (Unit × ej_M) → Prop} (hf : f_X11_compared_e Rf  m = some x) (hK : K x) (h0 : ∀ q : (Unit × ej_M), K q → res = (none, (ej_sh, q.2))) : ej_Z cX11_compared 2 none RX11 "compared" (e + 1) 0 [(0, .ref 41)] [] (ej_sh, m) res := by
  unfold f_X11_compared_e at hf
  refine z_aload_n (pc := 0) (i := 0) (j := 0) dX11_compared_0 rfl rfl ?_
  obtain ⟨q1, hq1, hf⟩ := Option.bind_eq_some_iff.mp hf
  refine z_oVv (pc := 1) (as := []) (rest := []) dX11_compared_1 lm_RX11_188 mf_X11_sum mi_X11_sum mv_X11_sum rc_41 rfl rfl (Nat.le_of_ble_eq_true rfl) (hR.2.2.2.1 _ _ hq1) ?_
  refine z_aload_n (pc := 4) (i := 0) (j := 0) dX11_compared_4 rfl rfl ?_
  obtain ⟨q2, hq2, hf⟩ := Option.bind_eq_some_iff.mp hf
  refine z_oVi (pc := 5) (as := []) (rest := []) dX11_compared_5 lm_RX11_161 mf_X11_look mi_X11_look mv_X11_look rc_41 rfl rfl (Nat.le_of_ble_eq_true rfl) (c_X11_look e (by omega) q1.2 hq2) ?_
  refine z_istore_n (pc := 8) (i := 1) (ls' := [(1, .int q2.1), (0, .ref 41)]) dX11_compared_8 rfl (Nat.le_of_ble_eq_true rfl) rfl ?_
  refine z_aload_n (pc := 9) (i := 0) (j := 1) dX11_compared_9 rfl rfl ?_
  refine z_ogetI (pc := 10) dX11_compared_10 lf_RX11_149 sh_41 rfl rfl ?_
  refine z_if_ge (pc := 13) (tgt := 34) dX11_compared_13 (by decide) (fun hc => ?_) (fun hc => ?_)
  · rw [if_pos hc] at hf
    obtain rfl := Option.some.inj hf
    rw [h0 _ hK]
    exact z_ret dX11_compared_34 rfl
  · rw [if_neg hc] at hf
    refine z_iload_n (pc := 16) (i := 1) (j := 0) dX11_compared_16 rfl rfl ?_
    refine z_bipush (pc := 17) dX11_compared_17 kb_60 ?_
    refine z_icmp_eq (pc := 19) (tgt := 35) dX11_compared_19 (by decide) (fun hc => ?_) (fun hc => ?_)
    · rw [if_pos hc] at hf
      exact z_pick [1, 0] rfl (b_X11_compared_B35 e hd Rf hR q2.1 q2.2 (K := K) hf hK  h0)
    · rw [if_neg hc] at hf
      refine z_iload_n (pc := 22) (i := 1) (j := 0) dX11_compared_22 rfl rfl ?_
      refine z_bipush (pc := 23) dX11_compared_23 kb_61 ?_
      refine z_icmp_eq (pc := 25) (tgt := 35) dX11_compared_25 (by decide) (fun hc => ?_) (fun hc => ?_)
      · rw [if_pos hc] at hf
        exact z_pick [1, 0] rfl (b_X11_compared_B35 e hd Rf hR q2.1 q2.2 (K := K) hf hK  h0)
      · rw [if_neg hc] at hf
        refine z_iload_n (pc := 28) (i := 1) (j := 0) dX11_compared_28 rfl rfl ?_
        refine z_bipush (pc := 29) dX11_compared_29 kb_62 ?_
        refine z_icmp_eq (pc := 31) (tgt := 35) dX11_compared_31 (by decide) (fun hc => ?_) (fun hc => ?_)
        · rw [if_pos hc] at hf
          exact z_pick [1, 0] rfl (b_X11_compared_B35 e hd Rf hR q2.1 q2.2 (K := K) hf hK  h0)
        · rw [if_neg hc] at hf
          obtain rfl := Option.some.inj hf
          rw [h0 _ hK]
          exact z_ret dX11_compared_34 rfl
def f_X11_sum_B29 (Rf : ((ej_M → Option (Unit × ej_M)) × (ej_M → Option (Unit × ej_M)) × (ej_M → Option (Unit × ej_M)) × (ej_M → Option (Unit × ej_M)) × (ej_M → Option (Unit × ej_M)) × (ej_M → Option (Unit × ej_M))))  (m : ej_M) : Option ((ej_M) ⊕ (Unit × ej_M)) :=
  (f_X11_look m).bind fun q1 =>
  (oj_pf q1.2 41 16 ((q1.2.1 41 16) + 1)).bind fun m2 =>
  (Rf.2.2.2.2.1 m2).bind fun q3 =>
  (f_X11_addStep q1.1 0 q3.2).bind fun q4 =>
  some (Sum.inl (q4.2))
set_option maxHeartbeats 4000000 in
set_option maxRecDepth 100000 in
theorem b_X11_sum_B29 (e : Nat) (hd : 1 ≤ e) (Rf : ((ej_M → Option (Unit × ej_M)) × (ej_M → Option (Unit × ej_M)) × (ej_M → Option (Unit × ej_M)) × (ej_M → Option (Unit × ej_M)) × (ej_M → Option (Unit × ej_M)) × (ej_M → Option (Unit × ej_M)))) (hR : Q_X11_either Rf e)  (m : ej_M) {x : ((ej_M) ⊕ (Unit × ej_M))} {res : Option Value × ej_H} {K : ((ej_M) ⊕ (Unit × ej_M)) → Prop} (hf : f_X11_sum_B29 Rf  m = some x) (hK : K x) (h1 : ∀ q : (ej_M), K (Sum.inl q) → ej_Z cX11_sum 2 none RX11 "sum" (e + 1) 4 [(0, .ref 41)] [] (ej_sh, q) res) (h0 : ∀ q : (Unit × ej_M), K (Sum.inr q) → res = (none, (ej_sh, q.2))) : ej_Z cX11_sum 2 none RX11 "sum" (e + 1) 29 [(0, .ref 41)] [] (ej_sh, m) res := by
  unfold f_X11_sum_B29 at hf
  refine z_aload_n (pc := 29) (i := 0) (j := 0) dX11_sum_29 rfl rfl ?_
  obtain ⟨q1, hq1, hf⟩ := Option.bind_eq_some_iff.mp hf
  refine z_oVi (pc := 30) (as := []) (rest := []) dX11_sum_30 lm_RX11_161 mf_X11_look mi_X11_look mv_X11_look rc_41 rfl rfl (Nat.le_of_ble_eq_true rfl) (c_X11_look e (by omega) m hq1) ?_
  refine z_istore_n (pc := 33) (i := 1) (ls' := [(1, .int q1.1), (0, .ref 41)]) dX11_sum_33 rfl (Nat.le_of_ble_eq_true rfl) rfl ?_
  refine z_aload_n (pc := 34) (i := 0) (j := 1) dX11_sum_34 rfl rfl ?_
  refine z_dup (pc := 35) dX11_sum_35 rfl ?_
  refine z_ogetI (pc := 36) dX11_sum_36 lf_RX11_146 sh_41 rfl rfl ?_
  refine z_iconst (pc := 39) dX11_sum_39 ki_1 ?_
  refine z_iadd (pc := 40) dX11_sum_40 ?_
  obtain ⟨m2, hm2, hf⟩ := Option.bind_eq_some_iff.mp hf
  refine z_oputI (pc := 41) dX11_sum_41 lf_RX11_146 sh_41 rfl hm2 ?_
  refine z_aload_n (pc := 44) (i := 0) (j := 1) dX11_sum_44 rfl rfl ?_
  obtain ⟨q3, hq3, hf⟩ := Option.bind_eq_some_iff.mp hf
  refine z_oVv (pc := 45) (as := []) (rest := []) dX11_sum_45 lm_RX11_185 mf_X11_product mi_X11_product mv_X11_product rc_41 rfl rfl (Nat.le_of_ble_eq_true rfl) (hR.2.2.2.2.1 _ _ hq3) ?_
  refine z_aload_n (pc := 48) (i := 0) (j := 1) dX11_sum_48 rfl rfl ?_
  refine z_iload_n (pc := 49) (i := 1) (j := 0) dX11_sum_49 rfl rfl ?_
  refine z_iconst (pc := 50) dX11_sum_50 ki_0 ?_
  obtain ⟨q4, hq4, hf⟩ := Option.bind_eq_some_iff.mp hf
  refine z_oVv (pc := 51) (as := [.int q1.1, .int 0]) (rest := []) dX11_sum_51 lm_RX11_165 mf_X11_addStep mi_X11_addStep mv_X11_addStep rc_41 rfl rfl (Nat.le_of_ble_eq_true rfl) (c_X11_addStep e (by omega) q1.1 0 q3.2 hq4) ?_
  refine z_goto (pc := 54) (tgt := 4) dX11_sum_54 (by decide) ?_
  obtain rfl := Option.some.inj hf
  exact z_pick (ls' := [(0, .ref 41)]) [1] rfl (h1 (q4.2) hK)
def f_X11_sum_L4b (Rf : ((ej_M → Option (Unit × ej_M)) × (ej_M → Option (Unit × ej_M)) × (ej_M → Option (Unit × ej_M)) × (ej_M → Option (Unit × ej_M)) × (ej_M → Option (Unit × ej_M)) × (ej_M → Option (Unit × ej_M))))  (m : ej_M) : Option ((ej_M) ⊕ (Unit × ej_M)) :=
  if 0 ≤ (m.1 41 17) then
    some (Sum.inr ((), m))
  else
    (f_X11_look m).bind fun q1 =>
    if q1.1 = 43 then
      f_X11_sum_B29 Rf  q1.2
    else
      (f_X11_look q1.2).bind fun q2 =>
      if q2.1 = 45 then
        f_X11_sum_B29 Rf  q2.2
      else
        some (Sum.inr ((), q2.2))
set_option maxHeartbeats 4000000 in
set_option maxRecDepth 100000 in
theorem b_X11_sum_L4b (e : Nat) (hd : 1 ≤ e) (Rf : ((ej_M → Option (Unit × ej_M)) × (ej_M → Option (Unit × ej_M)) × (ej_M → Option (Unit × ej_M)) × (ej_M → Option (Unit × ej_M)) × (ej_M → Option (Unit × ej_M)) × (ej_M → Option (Unit × ej_M)))) (hR : Q_X11_either Rf e)  (m : ej_M) {x : ((ej_M) ⊕ (Unit × ej_M))} {res : Option Value × ej_H} {K : ((ej_M) ⊕ (Unit × ej_M)) → Prop} (hf : f_X11_sum_L4b Rf  m = some x) (hK : K x) (h1 : ∀ q : (ej_M), K (Sum.inl q) → ej_Z cX11_sum 2 none RX11 "sum" (e + 1) 4 [(0, .ref 41)] [] (ej_sh, q) res) (h0 : ∀ q : (Unit × ej_M), K (Sum.inr q) → res = (none, (ej_sh, q.2))) : ej_Z cX11_sum 2 none RX11 "sum" (e + 1) 4 [(0, .ref 41)] [] (ej_sh, m) res := by
  unfold f_X11_sum_L4b at hf
  refine z_aload_n (pc := 4) (i := 0) (j := 0) dX11_sum_4 rfl rfl ?_
  refine z_ogetI (pc := 5) dX11_sum_5 lf_RX11_149 sh_41 rfl rfl ?_
  refine z_if_ge (pc := 8) (tgt := 57) dX11_sum_8 (by decide) (fun hc => ?_) (fun hc => ?_)
  · rw [if_pos hc] at hf
    obtain rfl := Option.some.inj hf
    rw [h0 _ hK]
    exact z_ret dX11_sum_57 rfl
  · rw [if_neg hc] at hf
    refine z_aload_n (pc := 11) (i := 0) (j := 0) dX11_sum_11 rfl rfl ?_
    obtain ⟨q1, hq1, hf⟩ := Option.bind_eq_some_iff.mp hf
    refine z_oVi (pc := 12) (as := []) (rest := []) dX11_sum_12 lm_RX11_161 mf_X11_look mi_X11_look mv_X11_look rc_41 rfl rfl (Nat.le_of_ble_eq_true rfl) (c_X11_look e (by omega) m hq1) ?_
    refine z_bipush (pc := 15) dX11_sum_15 kb_43 ?_
    refine z_icmp_eq (pc := 17) (tgt := 29) dX11_sum_17 (by decide) (fun hc => ?_) (fun hc => ?_)
    · rw [if_pos hc] at hf
      exact z_pick [0] rfl (b_X11_sum_B29 e hd Rf hR  q1.2 (K := K) hf hK h1 h0)
    · rw [if_neg hc] at hf
      refine z_aload_n (pc := 20) (i := 0) (j := 0) dX11_sum_20 rfl rfl ?_
      obtain ⟨q2, hq2, hf⟩ := Option.bind_eq_some_iff.mp hf
      refine z_oVi (pc := 21) (as := []) (rest := []) dX11_sum_21 lm_RX11_161 mf_X11_look mi_X11_look mv_X11_look rc_41 rfl rfl (Nat.le_of_ble_eq_true rfl) (c_X11_look e (by omega) q1.2 hq2) ?_
      refine z_bipush (pc := 24) dX11_sum_24 kb_45 ?_
      refine z_icmp_ne (pc := 26) (tgt := 57) dX11_sum_26 (by decide) (fun hc => ?_) (fun hc => ?_)
      · rw [if_neg hc] at hf
        obtain rfl := Option.some.inj hf
        rw [h0 _ hK]
        exact z_ret dX11_sum_57 rfl
      · rw [if_pos hc] at hf
        exact z_pick [0] rfl (b_X11_sum_B29 e hd Rf hR  q2.2 (K := K) hf hK h1 h0)
def f_X11_sum_L4 (Rf : ((ej_M → Option (Unit × ej_M)) × (ej_M → Option (Unit × ej_M)) × (ej_M → Option (Unit × ej_M)) × (ej_M → Option (Unit × ej_M)) × (ej_M → Option (Unit × ej_M)) × (ej_M → Option (Unit × ej_M))))  (m : ej_M) : Option (Unit × ej_M) := oj_loop (fun q : (ej_M) => f_X11_sum_L4b Rf  q) oj_FU (m)
set_option maxHeartbeats 4000000 in
set_option maxRecDepth 100000 in
theorem b_X11_sum_L4 (e : Nat) (hd : 1 ≤ e) (Rf : ((ej_M → Option (Unit × ej_M)) × (ej_M → Option (Unit × ej_M)) × (ej_M → Option (Unit × ej_M)) × (ej_M → Option (Unit × ej_M)) × (ej_M → Option (Unit × ej_M)) × (ej_M → Option (Unit × ej_M)))) (hR : Q_X11_either Rf e)  (m : ej_M) {x : (Unit × ej_M)} {res : Option Value × ej_H} {K : (Unit × ej_M) → Prop} (hf : f_X11_sum_L4 Rf  m = some x) (hK : K x) (h0 : ∀ q : (Unit × ej_M), K q → res = (none, (ej_sh, q.2))) : ej_Z cX11_sum 2 none RX11 "sum" (e + 1) 4 [(0, .ref 41)] [] (ej_sh, m) res :=
  oj_loop_Z (body := fun q : (ej_M) => f_X11_sum_L4b Rf  q) (P := fun q : (ej_M) => ej_Z cX11_sum 2 none RX11 "sum" (e + 1) 4 [(0, .ref 41)] [] (ej_sh, q) res) (K := K) (fun s x hb hl hr => b_X11_sum_L4b e hd Rf hR  s (K := fun x => (∀ s' : (ej_M), x = Sum.inl s' → ej_Z cX11_sum 2 none RX11 "sum" (e + 1) 4 [(0, .ref 41)] [] (ej_sh, s') res) ∧ ∀ e, x = Sum.inr e → K e) hb ⟨hl, hr⟩ (fun q hq => hq.1 q rfl) (fun q hq => h0 q (hq.2 _ rfl))) oj_FU (m) x hf hK
def f_X11_sum_e (Rf : ((ej_M → Option (Unit × ej_M)) × (ej_M → Option (Unit × ej_M)) × (ej_M → Option (Unit × ej_M)) × (ej_M → Option (Unit × ej_M)) × (ej_M → Option (Unit × ej_M)) × (ej_M → Option (Unit × ej_M))))  (m : ej_M) : Option (Unit × ej_M) :=
  (Rf.2.2.2.2.1 m).bind fun q1 =>
  f_X11_sum_L4 Rf  q1.2
set_option maxHeartbeats 4000000 in
set_option maxRecDepth 100000 in
theorem b_X11_sum_e (e : Nat) (hd : 1 ≤ e) (Rf : ((ej_M → Option (Unit × ej_M)) × (ej_M → Option (Unit × ej_M)) × (ej_M → Option (Unit × ej_M)) × (ej_M → Option (Unit × ej_M)) × (ej_M → Option (Unit × ej_M)) × (ej_M → Option (Unit × ej_M)))) (hR : Q_X11_either Rf e)  (m : ej_M) {x : (Unit × ej_M)} {res : Option Value × ej_H} {K : (Unit × ej_M) → Prop} (hf : f_X11_sum_e Rf  m = some x) (hK : K x) (h0 : ∀ q : (Unit × ej_M), K q → res = (none, (ej_sh, q.2))) : ej_Z cX11_sum 2 none RX11 "sum" (e + 1) 0 [(0, .ref 41)] [] (ej_sh, m) res := by
  unfold f_X11_sum_e at hf
  refine z_aload_n (pc := 0) (i := 0) (j := 0) dX11_sum_0 rfl rfl ?_
  obtain ⟨q1, hq1, hf⟩ := Option.bind_eq_some_iff.mp hf
  refine z_oVv (pc := 1) (as := []) (rest := []) dX11_sum_1 lm_RX11_185 mf_X11_product mi_X11_product mv_X11_product rc_41 rfl rfl (Nat.le_of_ble_eq_true rfl) (hR.2.2.2.2.1 _ _ hq1) ?_
  exact z_pick [0] rfl (b_X11_sum_L4 e hd Rf hR  q1.2 (K := K) hf hK  h0)
def f_X11_product_B38 (Rf : ((ej_M → Option (Unit × ej_M)) × (ej_M → Option (Unit × ej_M)) × (ej_M → Option (Unit × ej_M)) × (ej_M → Option (Unit × ej_M)) × (ej_M → Option (Unit × ej_M)) × (ej_M → Option (Unit × ej_M))))  (m : ej_M) : Option ((ej_M) ⊕ (Unit × ej_M)) :=
  (f_X11_look m).bind fun q1 =>
  (oj_pf q1.2 41 16 ((q1.2.1 41 16) + 1)).bind fun m2 =>
  (Rf.2.2.2.2.2 m2).bind fun q3 =>
  (f_X11_addStep q1.1 0 q3.2).bind fun q4 =>
  some (Sum.inl (q4.2))
set_option maxHeartbeats 4000000 in
set_option maxRecDepth 100000 in
theorem b_X11_product_B38 (e : Nat) (hd : 1 ≤ e) (Rf : ((ej_M → Option (Unit × ej_M)) × (ej_M → Option (Unit × ej_M)) × (ej_M → Option (Unit × ej_M)) × (ej_M → Option (Unit × ej_M)) × (ej_M → Option (Unit × ej_M)) × (ej_M → Option (Unit × ej_M)))) (hR : Q_X11_either Rf e)  (m : ej_M) {x : ((ej_M) ⊕ (Unit × ej_M))} {res : Option Value × ej_H} {K : ((ej_M) ⊕ (Unit × ej_M)) → Prop} (hf : f_X11_product_B38 Rf  m = some x) (hK : K x) (h1 : ∀ q : (ej_M), K (Sum.inl q) → ej_Z cX11_product 2 none RX11 "product" (e + 1) 4 [(0, .ref 41)] [] (ej_sh, q) res) (h0 : ∀ q : (Unit × ej_M), K (Sum.inr q) → res = (none, (ej_sh, q.2))) : ej_Z cX11_product 2 none RX11 "product" (e + 1) 38 [(0, .ref 41)] [] (ej_sh, m) res := by
  unfold f_X11_product_B38 at hf
  refine z_aload_n (pc := 38) (i := 0) (j := 0) dX11_product_38 rfl rfl ?_
  obtain ⟨q1, hq1, hf⟩ := Option.bind_eq_some_iff.mp hf
  refine z_oVi (pc := 39) (as := []) (rest := []) dX11_product_39 lm_RX11_161 mf_X11_look mi_X11_look mv_X11_look rc_41 rfl rfl (Nat.le_of_ble_eq_true rfl) (c_X11_look e (by omega) m hq1) ?_
  refine z_istore_n (pc := 42) (i := 1) (ls' := [(1, .int q1.1), (0, .ref 41)]) dX11_product_42 rfl (Nat.le_of_ble_eq_true rfl) rfl ?_
  refine z_aload_n (pc := 43) (i := 0) (j := 1) dX11_product_43 rfl rfl ?_
  refine z_dup (pc := 44) dX11_product_44 rfl ?_
  refine z_ogetI (pc := 45) dX11_product_45 lf_RX11_146 sh_41 rfl rfl ?_
  refine z_iconst (pc := 48) dX11_product_48 ki_1 ?_
  refine z_iadd (pc := 49) dX11_product_49 ?_
  obtain ⟨m2, hm2, hf⟩ := Option.bind_eq_some_iff.mp hf
  refine z_oputI (pc := 50) dX11_product_50 lf_RX11_146 sh_41 rfl hm2 ?_
  refine z_aload_n (pc := 53) (i := 0) (j := 1) dX11_product_53 rfl rfl ?_
  obtain ⟨q3, hq3, hf⟩ := Option.bind_eq_some_iff.mp hf
  refine z_oVv (pc := 54) (as := []) (rest := []) dX11_product_54 lm_RX11_176 mf_X11_operand mi_X11_operand mv_X11_operand rc_41 rfl rfl (Nat.le_of_ble_eq_true rfl) (hR.2.2.2.2.2 _ _ hq3) ?_
  refine z_aload_n (pc := 57) (i := 0) (j := 1) dX11_product_57 rfl rfl ?_
  refine z_iload_n (pc := 58) (i := 1) (j := 0) dX11_product_58 rfl rfl ?_
  refine z_iconst (pc := 59) dX11_product_59 ki_0 ?_
  obtain ⟨q4, hq4, hf⟩ := Option.bind_eq_some_iff.mp hf
  refine z_oVv (pc := 60) (as := [.int q1.1, .int 0]) (rest := []) dX11_product_60 lm_RX11_165 mf_X11_addStep mi_X11_addStep mv_X11_addStep rc_41 rfl rfl (Nat.le_of_ble_eq_true rfl) (c_X11_addStep e (by omega) q1.1 0 q3.2 hq4) ?_
  refine z_goto (pc := 63) (tgt := 4) dX11_product_63 (by decide) ?_
  obtain rfl := Option.some.inj hf
  exact z_pick (ls' := [(0, .ref 41)]) [1] rfl (h1 (q4.2) hK)
def f_X11_product_L4b (Rf : ((ej_M → Option (Unit × ej_M)) × (ej_M → Option (Unit × ej_M)) × (ej_M → Option (Unit × ej_M)) × (ej_M → Option (Unit × ej_M)) × (ej_M → Option (Unit × ej_M)) × (ej_M → Option (Unit × ej_M))))  (m : ej_M) : Option ((ej_M) ⊕ (Unit × ej_M)) :=
  if 0 ≤ (m.1 41 17) then
    some (Sum.inr ((), m))
  else
    (f_X11_look m).bind fun q1 =>
    if q1.1 = 42 then
      f_X11_product_B38 Rf  q1.2
    else
      (f_X11_look q1.2).bind fun q2 =>
      if q2.1 = 47 then
        f_X11_product_B38 Rf  q2.2
      else
        (f_X11_look q2.2).bind fun q3 =>
        if q3.1 = 37 then
          f_X11_product_B38 Rf  q3.2
        else
          some (Sum.inr ((), q3.2))
set_option maxHeartbeats 4000000 in
set_option maxRecDepth 100000 in
theorem b_X11_product_L4b (e : Nat) (hd : 1 ≤ e) (Rf : ((ej_M → Option (Unit × ej_M)) × (ej_M → Option (Unit × ej_M)) × (ej_M → Option (Unit × ej_M)) × (ej_M → Option (Unit × ej_M)) × (ej_M → Option (Unit × ej_M)) × (ej_M → Option (Unit × ej_M)))) (hR : Q_X11_either Rf e)  (m : ej_M) {x : ((ej_M) ⊕ (Unit × ej_M))} {res : Option Value × ej_H} {K : ((ej_M) ⊕ (Unit × ej_M)) → Prop} (hf : f_X11_product_L4b Rf  m = some x) (hK : K x) (h1 : ∀ q : (ej_M), K (Sum.inl q) → ej_Z cX11_product 2 none RX11 "product" (e + 1) 4 [(0, .ref 41)] [] (ej_sh, q) res) (h0 : ∀ q : (Unit × ej_M), K (Sum.inr q) → res = (none, (ej_sh, q.2))) : ej_Z cX11_product 2 none RX11 "product" (e + 1) 4 [(0, .ref 41)] [] (ej_sh, m) res := by
  unfold f_X11_product_L4b at hf
  refine z_aload_n (pc := 4) (i := 0) (j := 0) dX11_product_4 rfl rfl ?_
  refine z_ogetI (pc := 5) dX11_product_5 lf_RX11_149 sh_41 rfl rfl ?_
  refine z_if_ge (pc := 8) (tgt := 66) dX11_product_8 (by decide) (fun hc => ?_) (fun hc => ?_)
  · rw [if_pos hc] at hf
    obtain rfl := Option.some.inj hf
    rw [h0 _ hK]
    exact z_ret dX11_product_66 rfl
  · rw [if_neg hc] at hf
    refine z_aload_n (pc := 11) (i := 0) (j := 0) dX11_product_11 rfl rfl ?_
    obtain ⟨q1, hq1, hf⟩ := Option.bind_eq_some_iff.mp hf
    refine z_oVi (pc := 12) (as := []) (rest := []) dX11_product_12 lm_RX11_161 mf_X11_look mi_X11_look mv_X11_look rc_41 rfl rfl (Nat.le_of_ble_eq_true rfl) (c_X11_look e (by omega) m hq1) ?_
    refine z_bipush (pc := 15) dX11_product_15 kb_42 ?_
    refine z_icmp_eq (pc := 17) (tgt := 38) dX11_product_17 (by decide) (fun hc => ?_) (fun hc => ?_)
    · rw [if_pos hc] at hf
      exact z_pick [0] rfl (b_X11_product_B38 e hd Rf hR  q1.2 (K := K) hf hK h1 h0)
    · rw [if_neg hc] at hf
      refine z_aload_n (pc := 20) (i := 0) (j := 0) dX11_product_20 rfl rfl ?_
      obtain ⟨q2, hq2, hf⟩ := Option.bind_eq_some_iff.mp hf
      refine z_oVi (pc := 21) (as := []) (rest := []) dX11_product_21 lm_RX11_161 mf_X11_look mi_X11_look mv_X11_look rc_41 rfl rfl (Nat.le_of_ble_eq_true rfl) (c_X11_look e (by omega) q1.2 hq2) ?_
      refine z_bipush (pc := 24) dX11_product_24 kb_47 ?_
      refine z_icmp_eq (pc := 26) (tgt := 38) dX11_product_26 (by decide) (fun hc => ?_) (fun hc => ?_)
      · rw [if_pos hc] at hf
        exact z_pick [0] rfl (b_X11_product_B38 e hd Rf hR  q2.2 (K := K) hf hK h1 h0)
      · rw [if_neg hc] at hf
        refine z_aload_n (pc := 29) (i := 0) (j := 0) dX11_product_29 rfl rfl ?_
        obtain ⟨q3, hq3, hf⟩ := Option.bind_eq_some_iff.mp hf
        refine z_oVi (pc := 30) (as := []) (rest := []) dX11_product_30 lm_RX11_161 mf_X11_look mi_X11_look mv_X11_look rc_41 rfl rfl (Nat.le_of_ble_eq_true rfl) (c_X11_look e (by omega) q2.2 hq3) ?_
        refine z_bipush (pc := 33) dX11_product_33 kb_37 ?_
        refine z_icmp_ne (pc := 35) (tgt := 66) dX11_product_35 (by decide) (fun hc => ?_) (fun hc => ?_)
        · rw [if_neg hc] at hf
          obtain rfl := Option.some.inj hf
          rw [h0 _ hK]
          exact z_ret dX11_product_66 rfl
        · rw [if_pos hc] at hf
          exact z_pick [0] rfl (b_X11_product_B38 e hd Rf hR  q3.2 (K := K) hf hK h1 h0)
def f_X11_product_L4 (Rf : ((ej_M → Option (Unit × ej_M)) × (ej_M → Option (Unit × ej_M)) × (ej_M → Option (Unit × ej_M)) × (ej_M → Option (Unit × ej_M)) × (ej_M → Option (Unit × ej_M)) × (ej_M → Option (Unit × ej_M))))  (m : ej_M) : Option (Unit × ej_M) := oj_loop (fun q : (ej_M) => f_X11_product_L4b Rf  q) oj_FU (m)
set_option maxHeartbeats 4000000 in
set_option maxRecDepth 100000 in
theorem b_X11_product_L4 (e : Nat) (hd : 1 ≤ e) (Rf : ((ej_M → Option (Unit × ej_M)) × (ej_M → Option (Unit × ej_M)) × (ej_M → Option (Unit × ej_M)) × (ej_M → Option (Unit × ej_M)) × (ej_M → Option (Unit × ej_M)) × (ej_M → Option (Unit × ej_M)))) (hR : Q_X11_either Rf e)  (m : ej_M) {x : (Unit × ej_M)} {res : Option Value × ej_H} {K : (Unit × ej_M) → Prop} (hf : f_X11_product_L4 Rf  m = some x) (hK : K x) (h0 : ∀ q : (Unit × ej_M), K q → res = (none, (ej_sh, q.2))) : ej_Z cX11_product 2 none RX11 "product" (e + 1) 4 [(0, .ref 41)] [] (ej_sh, m) res :=
  oj_loop_Z (body := fun q : (ej_M) => f_X11_product_L4b Rf  q) (P := fun q : (ej_M) => ej_Z cX11_product 2 none RX11 "product" (e + 1) 4 [(0, .ref 41)] [] (ej_sh, q) res) (K := K) (fun s x hb hl hr => b_X11_product_L4b e hd Rf hR  s (K := fun x => (∀ s' : (ej_M), x = Sum.inl s' → ej_Z cX11_product 2 none RX11 "product" (e + 1) 4 [(0, .ref 41)] [] (ej_sh, s') res) ∧ ∀ e, x = Sum.inr e → K e) hb ⟨hl, hr⟩ (fun q hq => hq.1 q rfl) (fun q hq => h0 q (hq.2 _ rfl))) oj_FU (m) x hf hK
def f_X11_product_e (Rf : ((ej_M → Option (Unit × ej_M)) × (ej_M → Option (Unit × ej_M)) × (ej_M → Option (Unit × ej_M)) × (ej_M → Option (Unit × ej_M)) × (ej_M → Option (Unit × ej_M)) × (ej_M → Option (Unit × ej_M))))  (m : ej_M) : Option (Unit × ej_M) :=
  (Rf.2.2.2.2.2 m).bind fun q1 =>
  f_X11_product_L4 Rf  q1.2
set_option maxHeartbeats 4000000 in
set_option maxRecDepth 100000 in
theorem b_X11_product_e (e : Nat) (hd : 1 ≤ e) (Rf : ((ej_M → Option (Unit × ej_M)) × (ej_M → Option (Unit × ej_M)) × (ej_M → Option (Unit × ej_M)) × (ej_M → Option (Unit × ej_M)) × (ej_M → Option (Unit × ej_M)) × (ej_M → Option (Unit × ej_M)))) (hR : Q_X11_either Rf e)  (m : ej_M) {x : (Unit × ej_M)} {res : Option Value × ej_H} {K : (Unit × ej_M) → Prop} (hf : f_X11_product_e Rf  m = some x) (hK : K x) (h0 : ∀ q : (Unit × ej_M), K q → res = (none, (ej_sh, q.2))) : ej_Z cX11_product 2 none RX11 "product" (e + 1) 0 [(0, .ref 41)] [] (ej_sh, m) res := by
  unfold f_X11_product_e at hf
  refine z_aload_n (pc := 0) (i := 0) (j := 0) dX11_product_0 rfl rfl ?_
  obtain ⟨q1, hq1, hf⟩ := Option.bind_eq_some_iff.mp hf
  refine z_oVv (pc := 1) (as := []) (rest := []) dX11_product_1 lm_RX11_176 mf_X11_operand mi_X11_operand mv_X11_operand rc_41 rfl rfl (Nat.le_of_ble_eq_true rfl) (hR.2.2.2.2.2 _ _ hq1) ?_
  exact z_pick [0] rfl (b_X11_product_L4 e hd Rf hR  q1.2 (K := K) hf hK  h0)
def f_X11_operand_B80 (Rf : ((ej_M → Option (Unit × ej_M)) × (ej_M → Option (Unit × ej_M)) × (ej_M → Option (Unit × ej_M)) × (ej_M → Option (Unit × ej_M)) × (ej_M → Option (Unit × ej_M)) × (ej_M → Option (Unit × ej_M)))) (s0 : Int32) (m : ej_M) : Option (Unit × ej_M) :=
  (f_X11_addStep s0 0 m).bind fun q1 =>
  some ((), q1.2)
set_option maxHeartbeats 4000000 in
set_option maxRecDepth 100000 in
theorem b_X11_operand_B80 (e : Nat) (hd : 1 ≤ e) (Rf : ((ej_M → Option (Unit × ej_M)) × (ej_M → Option (Unit × ej_M)) × (ej_M → Option (Unit × ej_M)) × (ej_M → Option (Unit × ej_M)) × (ej_M → Option (Unit × ej_M)) × (ej_M → Option (Unit × ej_M)))) (hR : Q_X11_either Rf e) (s0 : Int32) (m : ej_M) {x : (Unit × ej_M)} {res : Option Value × ej_H} {K : (Unit × ej_M) → Prop} (hf : f_X11_operand_B80 Rf s0 m = some x) (hK : K x) (h0 : ∀ q : (Unit × ej_M), K q → res = (none, (ej_sh, q.2))) : ej_Z cX11_operand 2 none RX11 "operand" (e + 1) 80 [] [.int s0, .ref 41] (ej_sh, m) res := by
  unfold f_X11_operand_B80 at hf
  refine z_iconst (pc := 80) dX11_operand_80 ki_0 ?_
  obtain ⟨q1, hq1, hf⟩ := Option.bind_eq_some_iff.mp hf
  refine z_oVv (pc := 81) (as := [.int s0, .int 0]) (rest := []) dX11_operand_81 lm_RX11_165 mf_X11_addStep mi_X11_addStep mv_X11_addStep rc_41 rfl rfl (Nat.le_of_ble_eq_true rfl) (c_X11_addStep e (by omega) s0 0 m hq1) ?_
  refine z_goto (pc := 84) (tgt := 154) dX11_operand_84 (by decide) ?_
  obtain rfl := Option.some.inj hf
  rw [h0 _ hK]
  exact z_ret dX11_operand_154 rfl
def f_X11_operand_B46 (Rf : ((ej_M → Option (Unit × ej_M)) × (ej_M → Option (Unit × ej_M)) × (ej_M → Option (Unit × ej_M)) × (ej_M → Option (Unit × ej_M)) × (ej_M → Option (Unit × ej_M)) × (ej_M → Option (Unit × ej_M)))) (v1 : Int32) (m : ej_M) : Option (Unit × ej_M) :=
  (f_X11_opens m).bind fun q1 =>
  if q1.1 = 0 then
    some ((), q1.2)
  else
    (Rf.2.2.2.2.2 q1.2).bind fun q2 =>
    (oj_pf q2.2 41 18 ((q2.2.1 41 18) - 1)).bind fun m3 =>
    if v1 = 33 then
      f_X11_operand_B80 Rf 3 m3
    else
      f_X11_operand_B80 Rf 4 m3
set_option maxHeartbeats 4000000 in
set_option maxRecDepth 100000 in
theorem b_X11_operand_B46 (e : Nat) (hd : 1 ≤ e) (Rf : ((ej_M → Option (Unit × ej_M)) × (ej_M → Option (Unit × ej_M)) × (ej_M → Option (Unit × ej_M)) × (ej_M → Option (Unit × ej_M)) × (ej_M → Option (Unit × ej_M)) × (ej_M → Option (Unit × ej_M)))) (hR : Q_X11_either Rf e) (v1 : Int32) (m : ej_M) {x : (Unit × ej_M)} {res : Option Value × ej_H} {K : (Unit × ej_M) → Prop} (hf : f_X11_operand_B46 Rf v1 m = some x) (hK : K x) (h0 : ∀ q : (Unit × ej_M), K q → res = (none, (ej_sh, q.2))) : ej_Z cX11_operand 2 none RX11 "operand" (e + 1) 46 [(0, .ref 41), (1, .int v1)] [] (ej_sh, m) res := by
  unfold f_X11_operand_B46 at hf
  refine z_aload_n (pc := 46) (i := 0) (j := 0) dX11_operand_46 rfl rfl ?_
  obtain ⟨q1, hq1, hf⟩ := Option.bind_eq_some_iff.mp hf
  refine z_oVi (pc := 47) (as := []) (rest := []) dX11_operand_47 lm_RX11_172 mf_X11_opens mi_X11_opens mv_X11_opens rc_41 rfl rfl (Nat.le_of_ble_eq_true rfl) (c_X11_opens e (by omega) m hq1) ?_
  refine z_if_ne (pc := 50) (tgt := 54) dX11_operand_50 (by decide) (fun hc => ?_) (fun hc => ?_)
  · rw [if_neg hc] at hf
    refine z_aload_n (pc := 54) (i := 0) (j := 0) dX11_operand_54 rfl rfl ?_
    obtain ⟨q2, hq2, hf⟩ := Option.bind_eq_some_iff.mp hf
    refine z_oVv (pc := 55) (as := []) (rest := []) dX11_operand_55 lm_RX11_176 mf_X11_operand mi_X11_operand mv_X11_operand rc_41 rfl rfl (Nat.le_of_ble_eq_true rfl) (hR.2.2.2.2.2 _ _ hq2) ?_
    refine z_aload_n (pc := 58) (i := 0) (j := 0) dX11_operand_58 rfl rfl ?_
    refine z_dup (pc := 59) dX11_operand_59 rfl ?_
    refine z_ogetI (pc := 60) dX11_operand_60 lf_RX11_155 sh_41 rfl rfl ?_
    refine z_iconst (pc := 63) dX11_operand_63 ki_1 ?_
    refine z_isub (pc := 64) dX11_operand_64 ?_
    obtain ⟨m3, hm3, hf⟩ := Option.bind_eq_some_iff.mp hf
    refine z_oputI (pc := 65) dX11_operand_65 lf_RX11_155 sh_41 rfl hm3 ?_
    refine z_aload_n (pc := 68) (i := 0) (j := 0) dX11_operand_68 rfl rfl ?_
    refine z_iload_n (pc := 69) (i := 1) (j := 1) dX11_operand_69 rfl rfl ?_
    refine z_bipush (pc := 70) dX11_operand_70 kb_33 ?_
    refine z_icmp_ne (pc := 72) (tgt := 79) dX11_operand_72 (by decide) (fun hc => ?_) (fun hc => ?_)
    · rw [if_neg hc] at hf
      refine z_iconst (pc := 79) dX11_operand_79 ki_4 ?_
      exact z_pick [] rfl (b_X11_operand_B80 e hd Rf hR 4 m3 (K := K) hf hK  h0)
    · rw [if_pos hc] at hf
      refine z_iconst (pc := 75) dX11_operand_75 ki_3 ?_
      refine z_goto (pc := 76) (tgt := 80) dX11_operand_76 (by decide) ?_
      exact z_pick [] rfl (b_X11_operand_B80 e hd Rf hR 3 m3 (K := K) hf hK  h0)
  · rw [if_pos hc] at hf
    obtain rfl := Option.some.inj hf
    rw [h0 _ hK]
    exact z_ret dX11_operand_53 rfl
def f_X11_operand_e (Rf : ((ej_M → Option (Unit × ej_M)) × (ej_M → Option (Unit × ej_M)) × (ej_M → Option (Unit × ej_M)) × (ej_M → Option (Unit × ej_M)) × (ej_M → Option (Unit × ej_M)) × (ej_M → Option (Unit × ej_M))))  (m : ej_M) : Option (Unit × ej_M) :=
  (f_X11_look m).bind fun q1 =>
  (f_X11_nameOf q1.1 q1.2).bind fun q2 =>
  if q2.1 < 0 then
    if q1.1 = 33 then
      f_X11_operand_B46 Rf q1.1 q2.2
    else
      if q1.1 = 45 then
        f_X11_operand_B46 Rf q1.1 q2.2
      else
        if q1.1 = 40 then
          (f_X11_opens q2.2).bind fun q4 =>
          if q4.1 = 0 then
            some ((), q4.2)
          else
            (Rf.1 q4.2).bind fun q5 =>
            if (q5.2.1 41 17) < 0 then
              (f_X11_look q5.2).bind fun q6 =>
              if q6.1 = 41 then
                (oj_pf q6.2 41 16 ((q6.2.1 41 16) + 1)).bind fun m7 =>
                (oj_pf m7 41 18 ((m7.1 41 18) - 1)).bind fun m8 =>
                some ((), m8)
              else
                (f_X11_faulty q6.2).bind fun q9 =>
                some ((), q9.2)
            else
              some ((), q5.2)
        else
          (f_X11_figure q2.2).bind fun q3 =>
          some ((), q3.2)
  else
    (f_X11_nameOf q1.1 q2.2).bind fun q10 =>
    (f_X11_addStep 2 q10.1 q10.2).bind fun q11 =>
    (oj_pf q11.2 41 16 ((q11.2.1 41 16) + 1)).bind fun m12 =>
    some ((), m12)
set_option maxHeartbeats 4000000 in
set_option maxRecDepth 100000 in
theorem b_X11_operand_e (e : Nat) (hd : 1 ≤ e) (Rf : ((ej_M → Option (Unit × ej_M)) × (ej_M → Option (Unit × ej_M)) × (ej_M → Option (Unit × ej_M)) × (ej_M → Option (Unit × ej_M)) × (ej_M → Option (Unit × ej_M)) × (ej_M → Option (Unit × ej_M)))) (hR : Q_X11_either Rf e)  (m : ej_M) {x : (Unit × ej_M)} {res : Option Value × ej_H} {K : (Unit × ej_M) → Prop} (hf : f_X11_operand_e Rf  m = some x) (hK : K x) (h0 : ∀ q : (Unit × ej_M), K q → res = (none, (ej_sh, q.2))) : ej_Z cX11_operand 2 none RX11 "operand" (e + 1) 0 [(0, .ref 41)] [] (ej_sh, m) res := by
  unfold f_X11_operand_e at hf
  refine z_aload_n (pc := 0) (i := 0) (j := 0) dX11_operand_0 rfl rfl ?_
  obtain ⟨q1, hq1, hf⟩ := Option.bind_eq_some_iff.mp hf
  refine z_oVi (pc := 1) (as := []) (rest := []) dX11_operand_1 lm_RX11_161 mf_X11_look mi_X11_look mv_X11_look rc_41 rfl rfl (Nat.le_of_ble_eq_true rfl) (c_X11_look e (by omega) m hq1) ?_
  refine z_istore_n (pc := 4) (i := 1) (ls' := [(1, .int q1.1), (0, .ref 41)]) dX11_operand_4 rfl (Nat.le_of_ble_eq_true rfl) rfl ?_
  refine z_iload_n (pc := 5) (i := 1) (j := 0) dX11_operand_5 rfl rfl ?_
  obtain ⟨q2, hq2, hf⟩ := Option.bind_eq_some_iff.mp hf
  refine z_oSi (pc := 6) (as := [.int q1.1]) (rest := []) dX11_operand_6 lm_RX11_169 mf_X11_nameOf ms_X11_nameOf rfl rfl (Nat.le_of_ble_eq_true rfl) (c_X11_nameOf e (by omega) q1.1 q1.2 hq2) ?_
  refine z_if_lt (pc := 9) (tgt := 34) dX11_operand_9 (by decide) (fun hc => ?_) (fun hc => ?_)
  · rw [if_pos hc] at hf
    refine z_iload_n (pc := 34) (i := 1) (j := 0) dX11_operand_34 rfl rfl ?_
    refine z_bipush (pc := 35) dX11_operand_35 kb_33 ?_
    refine z_icmp_eq (pc := 37) (tgt := 46) dX11_operand_37 (by decide) (fun hc => ?_) (fun hc => ?_)
    · rw [if_pos hc] at hf
      exact z_pick [1, 0] rfl (b_X11_operand_B46 e hd Rf hR q1.1 q2.2 (K := K) hf hK  h0)
    · rw [if_neg hc] at hf
      refine z_iload_n (pc := 40) (i := 1) (j := 0) dX11_operand_40 rfl rfl ?_
      refine z_bipush (pc := 41) dX11_operand_41 kb_45 ?_
      refine z_icmp_ne (pc := 43) (tgt := 87) dX11_operand_43 (by decide) (fun hc => ?_) (fun hc => ?_)
      · rw [if_neg hc] at hf
        refine z_iload_n (pc := 87) (i := 1) (j := 0) dX11_operand_87 rfl rfl ?_
        refine z_bipush (pc := 88) dX11_operand_88 kb_40 ?_
        refine z_icmp_ne (pc := 90) (tgt := 150) dX11_operand_90 (by decide) (fun hc => ?_) (fun hc => ?_)
        · rw [if_neg hc] at hf
          refine z_aload_n (pc := 150) (i := 0) (j := 1) dX11_operand_150 rfl rfl ?_
          obtain ⟨q3, hq3, hf⟩ := Option.bind_eq_some_iff.mp hf
          refine z_oVv (pc := 151) (as := []) (rest := []) dX11_operand_151 lm_RX11_182 mf_X11_figure mi_X11_figure mv_X11_figure rc_41 rfl rfl (Nat.le_of_ble_eq_true rfl) (c_X11_figure e (by omega) q2.2 hq3) ?_
          obtain rfl := Option.some.inj hf
          rw [h0 _ hK]
          exact z_ret dX11_operand_154 rfl
        · rw [if_pos hc] at hf
          refine z_aload_n (pc := 93) (i := 0) (j := 1) dX11_operand_93 rfl rfl ?_
          obtain ⟨q4, hq4, hf⟩ := Option.bind_eq_some_iff.mp hf
          refine z_oVi (pc := 94) (as := []) (rest := []) dX11_operand_94 lm_RX11_172 mf_X11_opens mi_X11_opens mv_X11_opens rc_41 rfl rfl (Nat.le_of_ble_eq_true rfl) (c_X11_opens e (by omega) q2.2 hq4) ?_
          refine z_if_ne (pc := 97) (tgt := 101) dX11_operand_97 (by decide) (fun hc => ?_) (fun hc => ?_)
          · rw [if_neg hc] at hf
            refine z_aload_n (pc := 101) (i := 0) (j := 1) dX11_operand_101 rfl rfl ?_
            obtain ⟨q5, hq5, hf⟩ := Option.bind_eq_some_iff.mp hf
            refine z_oVv (pc := 102) (as := []) (rest := []) dX11_operand_102 lm_RX11_179 mf_X11_either mi_X11_either mv_X11_either rc_41 rfl rfl (Nat.le_of_ble_eq_true rfl) (hR.1 _ _ hq5) ?_
            refine z_aload_n (pc := 105) (i := 0) (j := 1) dX11_operand_105 rfl rfl ?_
            refine z_ogetI (pc := 106) dX11_operand_106 lf_RX11_149 sh_41 rfl rfl ?_
            refine z_if_lt (pc := 109) (tgt := 113) dX11_operand_109 (by decide) (fun hc => ?_) (fun hc => ?_)
            · rw [if_pos hc] at hf
              refine z_aload_n (pc := 113) (i := 0) (j := 1) dX11_operand_113 rfl rfl ?_
              obtain ⟨q6, hq6, hf⟩ := Option.bind_eq_some_iff.mp hf
              refine z_oVi (pc := 114) (as := []) (rest := []) dX11_operand_114 lm_RX11_161 mf_X11_look mi_X11_look mv_X11_look rc_41 rfl rfl (Nat.le_of_ble_eq_true rfl) (c_X11_look e (by omega) q5.2 hq6) ?_
              refine z_bipush (pc := 117) dX11_operand_117 kb_41 ?_
              refine z_icmp_eq (pc := 119) (tgt := 127) dX11_operand_119 (by decide) (fun hc => ?_) (fun hc => ?_)
              · rw [if_pos hc] at hf
                refine z_aload_n (pc := 127) (i := 0) (j := 1) dX11_operand_127 rfl rfl ?_
                refine z_dup (pc := 128) dX11_operand_128 rfl ?_
                refine z_ogetI (pc := 129) dX11_operand_129 lf_RX11_146 sh_41 rfl rfl ?_
                refine z_iconst (pc := 132) dX11_operand_132 ki_1 ?_
                refine z_iadd (pc := 133) dX11_operand_133 ?_
                obtain ⟨m7, hm7, hf⟩ := Option.bind_eq_some_iff.mp hf
                refine z_oputI (pc := 134) dX11_operand_134 lf_RX11_146 sh_41 rfl hm7 ?_
                refine z_aload_n (pc := 137) (i := 0) (j := 1) dX11_operand_137 rfl rfl ?_
                refine z_dup (pc := 138) dX11_operand_138 rfl ?_
                refine z_ogetI (pc := 139) dX11_operand_139 lf_RX11_155 sh_41 rfl rfl ?_
                refine z_iconst (pc := 142) dX11_operand_142 ki_1 ?_
                refine z_isub (pc := 143) dX11_operand_143 ?_
                obtain ⟨m8, hm8, hf⟩ := Option.bind_eq_some_iff.mp hf
                refine z_oputI (pc := 144) dX11_operand_144 lf_RX11_155 sh_41 rfl hm8 ?_
                refine z_goto (pc := 147) (tgt := 154) dX11_operand_147 (by decide) ?_
                obtain rfl := Option.some.inj hf
                rw [h0 _ hK]
                exact z_ret dX11_operand_154 rfl
              · rw [if_neg hc] at hf
                refine z_aload_n (pc := 122) (i := 0) (j := 1) dX11_operand_122 rfl rfl ?_
                obtain ⟨q9, hq9, hf⟩ := Option.bind_eq_some_iff.mp hf
                refine z_oVv (pc := 123) (as := []) (rest := []) dX11_operand_123 lm_RX11_158 mf_X11_faulty mi_X11_faulty mv_X11_faulty rc_41 rfl rfl (Nat.le_of_ble_eq_true rfl) (c_X11_faulty e (by omega) q6.2 hq9) ?_
                obtain rfl := Option.some.inj hf
                rw [h0 _ hK]
                exact z_ret dX11_operand_126 rfl
            · rw [if_neg hc] at hf
              obtain rfl := Option.some.inj hf
              rw [h0 _ hK]
              exact z_ret dX11_operand_112 rfl
          · rw [if_pos hc] at hf
            obtain rfl := Option.some.inj hf
            rw [h0 _ hK]
            exact z_ret dX11_operand_100 rfl
      · rw [if_pos hc] at hf
        exact z_pick [1, 0] rfl (b_X11_operand_B46 e hd Rf hR q1.1 q2.2 (K := K) hf hK  h0)
  · rw [if_neg hc] at hf
    refine z_aload_n (pc := 12) (i := 0) (j := 1) dX11_operand_12 rfl rfl ?_
    refine z_iconst (pc := 13) dX11_operand_13 ki_2 ?_
    refine z_iload_n (pc := 14) (i := 1) (j := 0) dX11_operand_14 rfl rfl ?_
    obtain ⟨q10, hq10, hf⟩ := Option.bind_eq_some_iff.mp hf
    refine z_oSi (pc := 15) (as := [.int q1.1]) (rest := [.int 2, .ref 41]) dX11_operand_15 lm_RX11_169 mf_X11_nameOf ms_X11_nameOf rfl rfl (Nat.le_of_ble_eq_true rfl) (c_X11_nameOf e (by omega) q1.1 q2.2 hq10) ?_
    obtain ⟨q11, hq11, hf⟩ := Option.bind_eq_some_iff.mp hf
    refine z_oVv (pc := 18) (as := [.int 2, .int q10.1]) (rest := []) dX11_operand_18 lm_RX11_165 mf_X11_addStep mi_X11_addStep mv_X11_addStep rc_41 rfl rfl (Nat.le_of_ble_eq_true rfl) (c_X11_addStep e (by omega) 2 q10.1 q10.2 hq11) ?_
    refine z_aload_n (pc := 21) (i := 0) (j := 1) dX11_operand_21 rfl rfl ?_
    refine z_dup (pc := 22) dX11_operand_22 rfl ?_
    refine z_ogetI (pc := 23) dX11_operand_23 lf_RX11_146 sh_41 rfl rfl ?_
    refine z_iconst (pc := 26) dX11_operand_26 ki_1 ?_
    refine z_iadd (pc := 27) dX11_operand_27 ?_
    obtain ⟨m12, hm12, hf⟩ := Option.bind_eq_some_iff.mp hf
    refine z_oputI (pc := 28) dX11_operand_28 lf_RX11_146 sh_41 rfl hm12 ?_
    refine z_goto (pc := 31) (tgt := 154) dX11_operand_31 (by decide) ?_
    obtain rfl := Option.some.inj hf
    rw [h0 _ hK]
    exact z_ret dX11_operand_154 rfl
def g_X11_either : Nat → ((ej_M → Option (Unit × ej_M)) × (ej_M → Option (Unit × ej_M)) × (ej_M → Option (Unit × ej_M)) × (ej_M → Option (Unit × ej_M)) × (ej_M → Option (Unit × ej_M)) × (ej_M → Option (Unit × ej_M)))
  | 0 => (fun _ => none, fun _ => none, fun _ => none, fun _ => none, fun _ => none, fun _ => none)
  | n + 1 => (f_X11_either_e (g_X11_either n), f_X11_both_e (g_X11_either n), f_X11_compared_e (g_X11_either n), f_X11_sum_e (g_X11_either n), f_X11_product_e (g_X11_either n), f_X11_operand_e (g_X11_either n))
set_option maxHeartbeats 4000000 in
set_option maxRecDepth 100000 in
theorem c9_X11_either : ∀ (n d : Nat), 2 + n ≤ d → Q_X11_either (g_X11_either n) d := by
  intro n
  induction n with
  | zero =>
    intro d _
    exact ⟨(fun _ _ h => by cases h), (fun _ _ h => by cases h), (fun _ _ h => by cases h), (fun _ _ h => by cases h), (fun _ _ h => by cases h), (fun _ _ h => by cases h)⟩
  | succ n ih =>
    intro d hd
    obtain ⟨e, rfl⟩ : ∃ e, d = e + 1 := ⟨d - 1, by omega⟩
    refine ⟨?_, ?_, ?_, ?_, ?_, ?_⟩
    · intro  m q hf
      exact z_met (by decide +kernel) (Nat.le_of_ble_eq_true rfl) (b_X11_either_e e (by omega) (g_X11_either n) (ih e (by omega))  m (K := fun z => ((none, (ej_sh, q.2)) : Option Value × ej_H) = (none, (ej_sh, z.2))) hf rfl (fun _ h => h))
    · intro  m q hf
      exact z_met (by decide +kernel) (Nat.le_of_ble_eq_true rfl) (b_X11_both_e e (by omega) (g_X11_either n) (ih e (by omega))  m (K := fun z => ((none, (ej_sh, q.2)) : Option Value × ej_H) = (none, (ej_sh, z.2))) hf rfl (fun _ h => h))
    · intro  m q hf
      exact z_met (by decide +kernel) (Nat.le_of_ble_eq_true rfl) (b_X11_compared_e e (by omega) (g_X11_either n) (ih e (by omega))  m (K := fun z => ((none, (ej_sh, q.2)) : Option Value × ej_H) = (none, (ej_sh, z.2))) hf rfl (fun _ h => h))
    · intro  m q hf
      exact z_met (by decide +kernel) (Nat.le_of_ble_eq_true rfl) (b_X11_sum_e e (by omega) (g_X11_either n) (ih e (by omega))  m (K := fun z => ((none, (ej_sh, q.2)) : Option Value × ej_H) = (none, (ej_sh, z.2))) hf rfl (fun _ h => h))
    · intro  m q hf
      exact z_met (by decide +kernel) (Nat.le_of_ble_eq_true rfl) (b_X11_product_e e (by omega) (g_X11_either n) (ih e (by omega))  m (K := fun z => ((none, (ej_sh, q.2)) : Option Value × ej_H) = (none, (ej_sh, z.2))) hf rfl (fun _ h => h))
    · intro  m q hf
      exact z_met (by decide +kernel) (Nat.le_of_ble_eq_true rfl) (b_X11_operand_e e (by omega) (g_X11_either n) (ih e (by omega))  m (K := fun z => ((none, (ej_sh, q.2)) : Option Value × ej_H) = (none, (ej_sh, z.2))) hf rfl (fun _ h => h))
def f_X11_either (n : Nat)  (m : ej_M) : Option (Unit × ej_M) := (g_X11_either n).1  m
set_option maxHeartbeats 4000000 in
set_option maxRecDepth 100000 in
theorem c_X11_either (d : Nat) (hd : 122 ≤ d)  (m : ej_M) {q : (Unit × ej_M)} (hf : f_X11_either oj_RF  m = some q) : ej_Ct yX11_either cX11_either 1 none d [.ref 41] (ej_sh, m) (none, (ej_sh, q.2)) := (c9_X11_either oj_RF d hd).1  m q hf
def f_X11_both (n : Nat)  (m : ej_M) : Option (Unit × ej_M) := (g_X11_either n).2.1  m
set_option maxHeartbeats 4000000 in
set_option maxRecDepth 100000 in
theorem c_X11_both (d : Nat) (hd : 122 ≤ d)  (m : ej_M) {q : (Unit × ej_M)} (hf : f_X11_both oj_RF  m = some q) : ej_Ct yX11_both cX11_both 1 none d [.ref 41] (ej_sh, m) (none, (ej_sh, q.2)) := (c9_X11_either oj_RF d hd).2.1  m q hf
def f_X11_compared (n : Nat)  (m : ej_M) : Option (Unit × ej_M) := (g_X11_either n).2.2.1  m
set_option maxHeartbeats 4000000 in
set_option maxRecDepth 100000 in
theorem c_X11_compared (d : Nat) (hd : 122 ≤ d)  (m : ej_M) {q : (Unit × ej_M)} (hf : f_X11_compared oj_RF  m = some q) : ej_Ct yX11_compared cX11_compared 2 none d [.ref 41] (ej_sh, m) (none, (ej_sh, q.2)) := (c9_X11_either oj_RF d hd).2.2.1  m q hf
def f_X11_sum (n : Nat)  (m : ej_M) : Option (Unit × ej_M) := (g_X11_either n).2.2.2.1  m
set_option maxHeartbeats 4000000 in
set_option maxRecDepth 100000 in
theorem c_X11_sum (d : Nat) (hd : 122 ≤ d)  (m : ej_M) {q : (Unit × ej_M)} (hf : f_X11_sum oj_RF  m = some q) : ej_Ct yX11_sum cX11_sum 2 none d [.ref 41] (ej_sh, m) (none, (ej_sh, q.2)) := (c9_X11_either oj_RF d hd).2.2.2.1  m q hf
def f_X11_product (n : Nat)  (m : ej_M) : Option (Unit × ej_M) := (g_X11_either n).2.2.2.2.1  m
set_option maxHeartbeats 4000000 in
set_option maxRecDepth 100000 in
theorem c_X11_product (d : Nat) (hd : 122 ≤ d)  (m : ej_M) {q : (Unit × ej_M)} (hf : f_X11_product oj_RF  m = some q) : ej_Ct yX11_product cX11_product 2 none d [.ref 41] (ej_sh, m) (none, (ej_sh, q.2)) := (c9_X11_either oj_RF d hd).2.2.2.2.1  m q hf
def f_X11_operand (n : Nat)  (m : ej_M) : Option (Unit × ej_M) := (g_X11_either n).2.2.2.2.2  m
set_option maxHeartbeats 4000000 in
set_option maxRecDepth 100000 in
theorem c_X11_operand (d : Nat) (hd : 122 ≤ d)  (m : ej_M) {q : (Unit × ej_M)} (hf : f_X11_operand oj_RF  m = some q) : ej_Ct yX11_operand cX11_operand 2 none d [.ref 41] (ej_sh, m) (none, (ej_sh, q.2)) := (c9_X11_either oj_RF d hd).2.2.2.2.2  m q hf
def f_X11_line_B66 (v1 : Int32) (m : ej_M) : Option (Unit × ej_M) :=
  (oj_st 2 m 53 v1 (vp_nar .short ((Int32.toInt16 (m.1 41 19)).toInt32))).bind fun m1 =>
  (oj_ld 0 m1 51 1).bind fun w2 =>
  (oj_st 0 m1 51 1 (w2 + 1)).bind fun m3 =>
  some ((), m3)
set_option maxHeartbeats 4000000 in
set_option maxRecDepth 100000 in
theorem b_X11_line_B66 (e : Nat) (hd : 122 ≤ e) (v1 : Int32) (m : ej_M) {x : (Unit × ej_M)} {res : Option Value × ej_H} {K : (Unit × ej_M) → Prop} (hf : f_X11_line_B66 v1 m = some x) (hK : K x) (h0 : ∀ q : (Unit × ej_M), K q → res = (none, (ej_sh, q.2))) : ej_Z cX11_line 2 none RX11 "line" (e + 1) 66 [(0, .ref 41), (1, .int v1)] [] (ej_sh, m) res := by
  unfold f_X11_line_B66 at hf
  refine z_aload_n (pc := 66) (i := 0) (j := 0) dX11_line_66 rfl rfl ?_
  refine z_ogetR (pc := 67) dX11_line_67 lf_RX11_45 sh_41 rfl rfl rfl ?_
  refine z_iload_n (pc := 70) (i := 1) (j := 1) dX11_line_70 rfl rfl ?_
  refine z_aload_n (pc := 71) (i := 0) (j := 0) dX11_line_71 rfl rfl ?_
  refine z_ogetI (pc := 72) dX11_line_72 lf_RX11_152 sh_41 rfl rfl ?_
  refine z_i2s (pc := 75) dX11_line_75 ?_
  obtain ⟨m1, hm1, hf⟩ := Option.bind_eq_some_iff.mp hf
  refine z_osast (pc := 76) dX11_line_76 hm1 ?_
  refine z_aload_n (pc := 77) (i := 0) (j := 0) dX11_line_77 rfl rfl ?_
  refine z_ogetR (pc := 78) dX11_line_78 lf_RX11_38 sh_41 rfl rfl rfl ?_
  refine z_iconst (pc := 81) dX11_line_81 ki_1 ?_
  refine z_dup2 (pc := 82) dX11_line_82 rfl rfl ?_
  obtain ⟨w2, hw2, hf⟩ := Option.bind_eq_some_iff.mp hf
  refine z_oiald (pc := 83) dX11_line_83 hw2 ?_
  refine z_iconst (pc := 84) dX11_line_84 ki_1 ?_
  refine z_iadd (pc := 85) dX11_line_85 ?_
  obtain ⟨m3, hm3, hf⟩ := Option.bind_eq_some_iff.mp hf
  refine z_oiast (pc := 86) dX11_line_86 hm3 ?_
  obtain rfl := Option.some.inj hf
  rw [h0 _ hK]
  exact z_ret dX11_line_87 rfl
def f_X11_line  (m : ej_M) : Option (Unit × ej_M) :=
  (oj_ld 0 m 51 1).bind fun w1 =>
  (oj_st 2 m 52 (61 + w1) (vp_nar .short ((Int32.toInt16 (m.1 41 19)).toInt32))).bind fun m2 =>
  (f_X11_either oj_RF m2).bind fun q3 =>
  if 0 ≤ (q3.2.1 41 17) then
    f_X11_line_B66 (61 + w1) q3.2
  else
    (f_X11_look q3.2).bind fun q4 =>
    if q4.1 = 63 then
      (oj_pf q4.2 41 16 ((q4.2.1 41 16) + 1)).bind fun m5 =>
      (oj_st 2 m5 52 (61 + w1) (vp_nar .short ((Int32.toInt16 (m5.1 41 19)).toInt32))).bind fun m6 =>
      (f_X11_either oj_RF m6).bind fun q7 =>
      f_X11_line_B66 (61 + w1) q7.2
    else
      f_X11_line_B66 (61 + w1) q4.2
set_option maxHeartbeats 4000000 in
set_option maxRecDepth 100000 in
theorem b_X11_line (e : Nat) (hd : 122 ≤ e)  (m : ej_M) {x : (Unit × ej_M)} {res : Option Value × ej_H} {K : (Unit × ej_M) → Prop} (hf : f_X11_line  m = some x) (hK : K x) (h0 : ∀ q : (Unit × ej_M), K q → res = (none, (ej_sh, q.2))) : ej_Z cX11_line 2 none RX11 "line" (e + 1) 0 [(0, .ref 41)] [] (ej_sh, m) res := by
  unfold f_X11_line at hf
  refine z_bipush (pc := 0) dX11_line_0 kb_61 ?_
  refine z_aload_n (pc := 2) (i := 0) (j := 0) dX11_line_2 rfl rfl ?_
  refine z_ogetR (pc := 3) dX11_line_3 lf_RX11_38 sh_41 rfl rfl rfl ?_
  refine z_iconst (pc := 6) dX11_line_6 ki_1 ?_
  obtain ⟨w1, hw1, hf⟩ := Option.bind_eq_some_iff.mp hf
  refine z_oiald (pc := 7) dX11_line_7 hw1 ?_
  refine z_iadd (pc := 8) dX11_line_8 ?_
  refine z_istore_n (pc := 9) (i := 1) (ls' := [(1, .int (61 + w1)), (0, .ref 41)]) dX11_line_9 rfl (Nat.le_of_ble_eq_true rfl) rfl ?_
  refine z_aload_n (pc := 10) (i := 0) (j := 1) dX11_line_10 rfl rfl ?_
  refine z_ogetR (pc := 11) dX11_line_11 lf_RX11_41 sh_41 rfl rfl rfl ?_
  refine z_iload_n (pc := 14) (i := 1) (j := 0) dX11_line_14 rfl rfl ?_
  refine z_aload_n (pc := 15) (i := 0) (j := 1) dX11_line_15 rfl rfl ?_
  refine z_ogetI (pc := 16) dX11_line_16 lf_RX11_152 sh_41 rfl rfl ?_
  refine z_i2s (pc := 19) dX11_line_19 ?_
  obtain ⟨m2, hm2, hf⟩ := Option.bind_eq_some_iff.mp hf
  refine z_osast (pc := 20) dX11_line_20 hm2 ?_
  refine z_aload_n (pc := 21) (i := 0) (j := 1) dX11_line_21 rfl rfl ?_
  obtain ⟨q3, hq3, hf⟩ := Option.bind_eq_some_iff.mp hf
  refine z_oVv (pc := 22) (as := []) (rest := []) dX11_line_22 lm_RX11_179 mf_X11_either mi_X11_either mv_X11_either rc_41 rfl rfl (Nat.le_of_ble_eq_true rfl) (c_X11_either e (by omega) m2 hq3) ?_
  refine z_aload_n (pc := 25) (i := 0) (j := 1) dX11_line_25 rfl rfl ?_
  refine z_ogetI (pc := 26) dX11_line_26 lf_RX11_149 sh_41 rfl rfl ?_
  refine z_if_ge (pc := 29) (tgt := 66) dX11_line_29 (by decide) (fun hc => ?_) (fun hc => ?_)
  · rw [if_pos hc] at hf
    exact z_pick [1, 0] rfl (b_X11_line_B66 e hd (61 + w1) q3.2 (K := K) hf hK  h0)
  · rw [if_neg hc] at hf
    refine z_aload_n (pc := 32) (i := 0) (j := 1) dX11_line_32 rfl rfl ?_
    obtain ⟨q4, hq4, hf⟩ := Option.bind_eq_some_iff.mp hf
    refine z_oVi (pc := 33) (as := []) (rest := []) dX11_line_33 lm_RX11_161 mf_X11_look mi_X11_look mv_X11_look rc_41 rfl rfl (Nat.le_of_ble_eq_true rfl) (c_X11_look e (by omega) q3.2 hq4) ?_
    refine z_bipush (pc := 36) dX11_line_36 kb_63 ?_
    refine z_icmp_ne (pc := 38) (tgt := 66) dX11_line_38 (by decide) (fun hc => ?_) (fun hc => ?_)
    · rw [if_neg hc] at hf
      exact z_pick [1, 0] rfl (b_X11_line_B66 e hd (61 + w1) q4.2 (K := K) hf hK  h0)
    · rw [if_pos hc] at hf
      refine z_aload_n (pc := 41) (i := 0) (j := 1) dX11_line_41 rfl rfl ?_
      refine z_dup (pc := 42) dX11_line_42 rfl ?_
      refine z_ogetI (pc := 43) dX11_line_43 lf_RX11_146 sh_41 rfl rfl ?_
      refine z_iconst (pc := 46) dX11_line_46 ki_1 ?_
      refine z_iadd (pc := 47) dX11_line_47 ?_
      obtain ⟨m5, hm5, hf⟩ := Option.bind_eq_some_iff.mp hf
      refine z_oputI (pc := 48) dX11_line_48 lf_RX11_146 sh_41 rfl hm5 ?_
      refine z_aload_n (pc := 51) (i := 0) (j := 1) dX11_line_51 rfl rfl ?_
      refine z_ogetR (pc := 52) dX11_line_52 lf_RX11_41 sh_41 rfl rfl rfl ?_
      refine z_iload_n (pc := 55) (i := 1) (j := 0) dX11_line_55 rfl rfl ?_
      refine z_aload_n (pc := 56) (i := 0) (j := 1) dX11_line_56 rfl rfl ?_
      refine z_ogetI (pc := 57) dX11_line_57 lf_RX11_152 sh_41 rfl rfl ?_
      refine z_i2s (pc := 60) dX11_line_60 ?_
      obtain ⟨m6, hm6, hf⟩ := Option.bind_eq_some_iff.mp hf
      refine z_osast (pc := 61) dX11_line_61 hm6 ?_
      refine z_aload_n (pc := 62) (i := 0) (j := 1) dX11_line_62 rfl rfl ?_
      obtain ⟨q7, hq7, hf⟩ := Option.bind_eq_some_iff.mp hf
      refine z_oVv (pc := 63) (as := []) (rest := []) dX11_line_63 lm_RX11_179 mf_X11_either mi_X11_either mv_X11_either rc_41 rfl rfl (Nat.le_of_ble_eq_true rfl) (c_X11_either e (by omega) m6 hq7) ?_
      exact z_pick [1, 0] rfl (b_X11_line_B66 e hd (61 + w1) q7.2 (K := K) hf hK  h0)
set_option maxHeartbeats 4000000 in
set_option maxRecDepth 100000 in
theorem c_X11_line (d : Nat) (hd : 123 ≤ d)  (m : ej_M) {q : (Unit × ej_M)} (hf : f_X11_line  m = some q) : ej_Ct yX11_line cX11_line 2 none d [.ref 41] (ej_sh, m) ((none, (ej_sh, q.2)) : Option Value × ej_H) := by
  obtain ⟨e, rfl⟩ : ∃ e, d = e + 1 := ⟨d - 1, by omega⟩
  exact z_met (by decide +kernel) (Nat.le_of_ble_eq_true rfl) (b_X11_line e (by omega)  m (K := fun z => ((none, (ej_sh, q.2)) : Option Value × ej_H) = (none, (ej_sh, z.2))) hf rfl (fun _ h => h))
def f_X11_readText_L177b (v1 : Int32) (v2 : Int32) (m : ej_M) : Option ((Int32 × ej_M) ⊕ (Int32 × ej_M)) :=
  (oj_ld 0 m 51 v1).bind fun w1 =>
  if w1 ≤ v2 then
    some (Sum.inr ((-1), m))
  else
    (oj_ld 2 m 52 (61 + v2)).bind fun w2 =>
    (oj_st 2 m 52 ((61 * v1) + v2) (vp_nar .short w2)).bind fun m3 =>
    (oj_ld 2 m3 53 (61 + v2)).bind fun w4 =>
    (oj_st 2 m3 53 ((61 * v1) + v2) (vp_nar .short w4)).bind fun m5 =>
    some (Sum.inl ((v2 + 1), m5))
set_option maxHeartbeats 4000000 in
set_option maxRecDepth 100000 in
theorem b_X11_readText_L177b (e : Nat) (hd : 123 ≤ e) (v1 : Int32) (v2 : Int32) (m : ej_M) {x : ((Int32 × ej_M) ⊕ (Int32 × ej_M))} {res : Option Value × ej_H} {K : ((Int32 × ej_M) ⊕ (Int32 × ej_M)) → Prop} (hf : f_X11_readText_L177b v1 v2 m = some x) (hK : K x) (h1 : ∀ q : (Int32 × ej_M), K (Sum.inl q) → ej_Z cX11_readText 3 (some .int) RX11 "readText" (e + 1) 177 [(0, .ref 41), (1, .int v1), (2, .int q.1)] [] (ej_sh, q.2) res) (h0 : ∀ q : (Int32 × ej_M), K (Sum.inr q) → res = (some (Value.int q.1), (ej_sh, q.2))) : ej_Z cX11_readText 3 (some .int) RX11 "readText" (e + 1) 177 [(0, .ref 41), (1, .int v1), (2, .int v2)] [] (ej_sh, m) res := by
  unfold f_X11_readText_L177b at hf
  refine z_iload_n (pc := 177) (i := 2) (j := 2) dX11_readText_177 rfl rfl ?_
  refine z_aload_n (pc := 178) (i := 0) (j := 0) dX11_readText_178 rfl rfl ?_
  refine z_ogetR (pc := 179) dX11_readText_179 lf_RX11_38 sh_41 rfl rfl rfl ?_
  refine z_iload_n (pc := 182) (i := 1) (j := 1) dX11_readText_182 rfl rfl ?_
  obtain ⟨w1, hw1, hf⟩ := Option.bind_eq_some_iff.mp hf
  refine z_oiald (pc := 183) dX11_readText_183 hw1 ?_
  refine z_icmp_ge (pc := 184) (tgt := 233) dX11_readText_184 (by decide) (fun hc => ?_) (fun hc => ?_)
  · rw [if_pos hc] at hf
    refine z_iconst (pc := 233) dX11_readText_233 ki_n1 ?_
    obtain rfl := Option.some.inj hf
    rw [h0 _ hK]
    exact z_iret dX11_readText_234 rfl rfl
  · rw [if_neg hc] at hf
    refine z_aload_n (pc := 187) (i := 0) (j := 0) dX11_readText_187 rfl rfl ?_
    refine z_ogetR (pc := 188) dX11_readText_188 lf_RX11_41 sh_41 rfl rfl rfl ?_
    refine z_bipush (pc := 191) dX11_readText_191 kb_61 ?_
    refine z_iload_n (pc := 193) (i := 1) (j := 1) dX11_readText_193 rfl rfl ?_
    refine z_imul (pc := 194) dX11_readText_194 ?_
    refine z_iload_n (pc := 195) (i := 2) (j := 2) dX11_readText_195 rfl rfl ?_
    refine z_iadd (pc := 196) dX11_readText_196 ?_
    refine z_aload_n (pc := 197) (i := 0) (j := 0) dX11_readText_197 rfl rfl ?_
    refine z_ogetR (pc := 198) dX11_readText_198 lf_RX11_41 sh_41 rfl rfl rfl ?_
    refine z_bipush (pc := 201) dX11_readText_201 kb_61 ?_
    refine z_iload_n (pc := 203) (i := 2) (j := 2) dX11_readText_203 rfl rfl ?_
    refine z_iadd (pc := 204) dX11_readText_204 ?_
    obtain ⟨w2, hw2, hf⟩ := Option.bind_eq_some_iff.mp hf
    refine z_osald (pc := 205) dX11_readText_205 hw2 ?_
    obtain ⟨m3, hm3, hf⟩ := Option.bind_eq_some_iff.mp hf
    refine z_osast (pc := 206) dX11_readText_206 hm3 ?_
    refine z_aload_n (pc := 207) (i := 0) (j := 0) dX11_readText_207 rfl rfl ?_
    refine z_ogetR (pc := 208) dX11_readText_208 lf_RX11_45 sh_41 rfl rfl rfl ?_
    refine z_bipush (pc := 211) dX11_readText_211 kb_61 ?_
    refine z_iload_n (pc := 213) (i := 1) (j := 1) dX11_readText_213 rfl rfl ?_
    refine z_imul (pc := 214) dX11_readText_214 ?_
    refine z_iload_n (pc := 215) (i := 2) (j := 2) dX11_readText_215 rfl rfl ?_
    refine z_iadd (pc := 216) dX11_readText_216 ?_
    refine z_aload_n (pc := 217) (i := 0) (j := 0) dX11_readText_217 rfl rfl ?_
    refine z_ogetR (pc := 218) dX11_readText_218 lf_RX11_45 sh_41 rfl rfl rfl ?_
    refine z_bipush (pc := 221) dX11_readText_221 kb_61 ?_
    refine z_iload_n (pc := 223) (i := 2) (j := 2) dX11_readText_223 rfl rfl ?_
    refine z_iadd (pc := 224) dX11_readText_224 ?_
    obtain ⟨w4, hw4, hf⟩ := Option.bind_eq_some_iff.mp hf
    refine z_osald (pc := 225) dX11_readText_225 hw4 ?_
    obtain ⟨m5, hm5, hf⟩ := Option.bind_eq_some_iff.mp hf
    refine z_osast (pc := 226) dX11_readText_226 hm5 ?_
    refine z_iinc (pc := 227) (j := 2) (ls' := [(2, .int (v2 + 1)), (0, .ref 41), (1, .int v1)]) dX11_readText_227 rfl ki_1 (Nat.le_of_ble_eq_true rfl) rfl ?_
    refine z_goto (pc := 230) (tgt := 177) dX11_readText_230 (by decide) ?_
    obtain rfl := Option.some.inj hf
    exact z_pick (ls' := [(0, .ref 41), (1, .int v1), (2, .int (v2 + 1))]) [1, 2, 0] rfl (h1 ((v2 + 1), m5) hK)
def f_X11_readText_L177 (v1 : Int32) (v2 : Int32) (m : ej_M) : Option (Int32 × ej_M) := oj_loop (fun q : (Int32 × ej_M) => f_X11_readText_L177b v1 q.1 q.2) oj_FU (v2, m)
set_option maxHeartbeats 4000000 in
set_option maxRecDepth 100000 in
theorem b_X11_readText_L177 (e : Nat) (hd : 123 ≤ e) (v1 : Int32) (v2 : Int32) (m : ej_M) {x : (Int32 × ej_M)} {res : Option Value × ej_H} {K : (Int32 × ej_M) → Prop} (hf : f_X11_readText_L177 v1 v2 m = some x) (hK : K x) (h0 : ∀ q : (Int32 × ej_M), K q → res = (some (Value.int q.1), (ej_sh, q.2))) : ej_Z cX11_readText 3 (some .int) RX11 "readText" (e + 1) 177 [(0, .ref 41), (1, .int v1), (2, .int v2)] [] (ej_sh, m) res :=
  oj_loop_Z (body := fun q : (Int32 × ej_M) => f_X11_readText_L177b v1 q.1 q.2) (P := fun q : (Int32 × ej_M) => ej_Z cX11_readText 3 (some .int) RX11 "readText" (e + 1) 177 [(0, .ref 41), (1, .int v1), (2, .int q.1)] [] (ej_sh, q.2) res) (K := K) (fun s x hb hl hr => b_X11_readText_L177b e hd v1  s.1 s.2 (K := fun x => (∀ s' : (Int32 × ej_M), x = Sum.inl s' → ej_Z cX11_readText 3 (some .int) RX11 "readText" (e + 1) 177 [(0, .ref 41), (1, .int v1), (2, .int s'.1)] [] (ej_sh, s'.2) res) ∧ ∀ e, x = Sum.inr e → K e) hb ⟨hl, hr⟩ (fun q hq => hq.1 q rfl) (fun q hq => h0 q (hq.2 _ rfl))) oj_FU (v2, m) x hf hK
def f_X11_readText_L105b (v1 : Int32) (v2 : Int32) (m : ej_M) : Option ((Int32 × ej_M) ⊕ (Int32 × ej_M)) :=
  if (m.1 41 19) ≤ v2 then
    (oj_ld 0 m 51 1).bind fun w1 =>
    (oj_st 0 m 51 v1 w1).bind fun m2 =>
    (f_X11_readText_L177 v1 0 m2).map fun y => (Sum.inr y)
  else
    (oj_ld 1 m 49 (130 + v2)).bind fun w3 =>
    (oj_st 1 m 49 ((130 * v1) + v2) (vp_nar .byte w3)).bind fun m4 =>
    (oj_ld 0 m4 50 (130 + v2)).bind fun w5 =>
    (oj_st 0 m4 50 ((130 * v1) + v2) w5).bind fun m6 =>
    some (Sum.inl ((v2 + 1), m6))
set_option maxHeartbeats 4000000 in
set_option maxRecDepth 100000 in
theorem b_X11_readText_L105b (e : Nat) (hd : 123 ≤ e) (v1 : Int32) (v2 : Int32) (m : ej_M) {x : ((Int32 × ej_M) ⊕ (Int32 × ej_M))} {res : Option Value × ej_H} {K : ((Int32 × ej_M) ⊕ (Int32 × ej_M)) → Prop} (hf : f_X11_readText_L105b v1 v2 m = some x) (hK : K x) (h1 : ∀ q : (Int32 × ej_M), K (Sum.inl q) → ej_Z cX11_readText 3 (some .int) RX11 "readText" (e + 1) 105 [(0, .ref 41), (1, .int v1), (2, .int q.1)] [] (ej_sh, q.2) res) (h0 : ∀ q : (Int32 × ej_M), K (Sum.inr q) → res = (some (Value.int q.1), (ej_sh, q.2))) : ej_Z cX11_readText 3 (some .int) RX11 "readText" (e + 1) 105 [(0, .ref 41), (1, .int v1), (2, .int v2)] [] (ej_sh, m) res := by
  unfold f_X11_readText_L105b at hf
  refine z_iload_n (pc := 105) (i := 2) (j := 2) dX11_readText_105 rfl rfl ?_
  refine z_aload_n (pc := 106) (i := 0) (j := 0) dX11_readText_106 rfl rfl ?_
  refine z_ogetI (pc := 107) dX11_readText_107 lf_RX11_152 sh_41 rfl rfl ?_
  refine z_icmp_ge (pc := 110) (tgt := 163) dX11_readText_110 (by decide) (fun hc => ?_) (fun hc => ?_)
  · rw [if_pos hc] at hf
    refine z_aload_n (pc := 163) (i := 0) (j := 0) dX11_readText_163 rfl rfl ?_
    refine z_ogetR (pc := 164) dX11_readText_164 lf_RX11_38 sh_41 rfl rfl rfl ?_
    refine z_iload_n (pc := 167) (i := 1) (j := 1) dX11_readText_167 rfl rfl ?_
    refine z_aload_n (pc := 168) (i := 0) (j := 0) dX11_readText_168 rfl rfl ?_
    refine z_ogetR (pc := 169) dX11_readText_169 lf_RX11_38 sh_41 rfl rfl rfl ?_
    refine z_iconst (pc := 172) dX11_readText_172 ki_1 ?_
    obtain ⟨w1, hw1, hf⟩ := Option.bind_eq_some_iff.mp hf
    refine z_oiald (pc := 173) dX11_readText_173 hw1 ?_
    obtain ⟨m2, hm2, hf⟩ := Option.bind_eq_some_iff.mp hf
    refine z_oiast (pc := 174) dX11_readText_174 hm2 ?_
    refine z_iconst (pc := 175) dX11_readText_175 ki_0 ?_
    refine z_istore_n (pc := 176) (i := 2) (ls' := [(2, .int 0), (0, .ref 41), (1, .int v1)]) dX11_readText_176 rfl (Nat.le_of_ble_eq_true rfl) rfl ?_
    obtain ⟨y, hy, hxy⟩ := Option.map_eq_some_iff.mp hf
    subst hxy
    exact z_pick [1, 2, 0] rfl (b_X11_readText_L177 e hd v1 0 m2 (K := fun y => K (Sum.inr y)) hy hK  h0)
  · rw [if_neg hc] at hf
    refine z_aload_n (pc := 113) (i := 0) (j := 0) dX11_readText_113 rfl rfl ?_
    refine z_ogetR (pc := 114) dX11_readText_114 lf_RX11_32 sh_41 rfl rfl rfl ?_
    refine z_sipush (pc := 117) dX11_readText_117 ks_130 ?_
    refine z_iload_n (pc := 120) (i := 1) (j := 1) dX11_readText_120 rfl rfl ?_
    refine z_imul (pc := 121) dX11_readText_121 ?_
    refine z_iload_n (pc := 122) (i := 2) (j := 2) dX11_readText_122 rfl rfl ?_
    refine z_iadd (pc := 123) dX11_readText_123 ?_
    refine z_aload_n (pc := 124) (i := 0) (j := 0) dX11_readText_124 rfl rfl ?_
    refine z_ogetR (pc := 125) dX11_readText_125 lf_RX11_32 sh_41 rfl rfl rfl ?_
    refine z_sipush (pc := 128) dX11_readText_128 ks_130 ?_
    refine z_iload_n (pc := 131) (i := 2) (j := 2) dX11_readText_131 rfl rfl ?_
    refine z_iadd (pc := 132) dX11_readText_132 ?_
    obtain ⟨w3, hw3, hf⟩ := Option.bind_eq_some_iff.mp hf
    refine z_obald (pc := 133) dX11_readText_133 hw3 ?_
    obtain ⟨m4, hm4, hf⟩ := Option.bind_eq_some_iff.mp hf
    refine z_obast (pc := 134) dX11_readText_134 hm4 ?_
    refine z_aload_n (pc := 135) (i := 0) (j := 0) dX11_readText_135 rfl rfl ?_
    refine z_ogetR (pc := 136) dX11_readText_136 lf_RX11_35 sh_41 rfl rfl rfl ?_
    refine z_sipush (pc := 139) dX11_readText_139 ks_130 ?_
    refine z_iload_n (pc := 142) (i := 1) (j := 1) dX11_readText_142 rfl rfl ?_
    refine z_imul (pc := 143) dX11_readText_143 ?_
    refine z_iload_n (pc := 144) (i := 2) (j := 2) dX11_readText_144 rfl rfl ?_
    refine z_iadd (pc := 145) dX11_readText_145 ?_
    refine z_aload_n (pc := 146) (i := 0) (j := 0) dX11_readText_146 rfl rfl ?_
    refine z_ogetR (pc := 147) dX11_readText_147 lf_RX11_35 sh_41 rfl rfl rfl ?_
    refine z_sipush (pc := 150) dX11_readText_150 ks_130 ?_
    refine z_iload_n (pc := 153) (i := 2) (j := 2) dX11_readText_153 rfl rfl ?_
    refine z_iadd (pc := 154) dX11_readText_154 ?_
    obtain ⟨w5, hw5, hf⟩ := Option.bind_eq_some_iff.mp hf
    refine z_oiald (pc := 155) dX11_readText_155 hw5 ?_
    obtain ⟨m6, hm6, hf⟩ := Option.bind_eq_some_iff.mp hf
    refine z_oiast (pc := 156) dX11_readText_156 hm6 ?_
    refine z_iinc (pc := 157) (j := 2) (ls' := [(2, .int (v2 + 1)), (0, .ref 41), (1, .int v1)]) dX11_readText_157 rfl ki_1 (Nat.le_of_ble_eq_true rfl) rfl ?_
    refine z_goto (pc := 160) (tgt := 105) dX11_readText_160 (by decide) ?_
    obtain rfl := Option.some.inj hf
    exact z_pick (ls' := [(0, .ref 41), (1, .int v1), (2, .int (v2 + 1))]) [1, 2, 0] rfl (h1 ((v2 + 1), m6) hK)
def f_X11_readText_L105 (v1 : Int32) (v2 : Int32) (m : ej_M) : Option (Int32 × ej_M) := oj_loop (fun q : (Int32 × ej_M) => f_X11_readText_L105b v1 q.1 q.2) oj_FU (v2, m)
set_option maxHeartbeats 4000000 in
set_option maxRecDepth 100000 in
theorem b_X11_readText_L105 (e : Nat) (hd : 123 ≤ e) (v1 : Int32) (v2 : Int32) (m : ej_M) {x : (Int32 × ej_M)} {res : Option Value × ej_H} {K : (Int32 × ej_M) → Prop} (hf : f_X11_readText_L105 v1 v2 m = some x) (hK : K x) (h0 : ∀ q : (Int32 × ej_M), K q → res = (some (Value.int q.1), (ej_sh, q.2))) : ej_Z cX11_readText 3 (some .int) RX11 "readText" (e + 1) 105 [(0, .ref 41), (1, .int v1), (2, .int v2)] [] (ej_sh, m) res :=
  oj_loop_Z (body := fun q : (Int32 × ej_M) => f_X11_readText_L105b v1 q.1 q.2) (P := fun q : (Int32 × ej_M) => ej_Z cX11_readText 3 (some .int) RX11 "readText" (e + 1) 105 [(0, .ref 41), (1, .int v1), (2, .int q.1)] [] (ej_sh, q.2) res) (K := K) (fun s x hb hl hr => b_X11_readText_L105b e hd v1  s.1 s.2 (K := fun x => (∀ s' : (Int32 × ej_M), x = Sum.inl s' → ej_Z cX11_readText 3 (some .int) RX11 "readText" (e + 1) 105 [(0, .ref 41), (1, .int v1), (2, .int s'.1)] [] (ej_sh, s'.2) res) ∧ ∀ e, x = Sum.inr e → K e) hb ⟨hl, hr⟩ (fun q hq => hq.1 q rfl) (fun q hq => h0 q (hq.2 _ rfl))) oj_FU (v2, m) x hf hK
def f_X11_readText_B86 (v1 : Int32) (m : ej_M) : Option (Int32 × ej_M) :=
  (oj_pf m 41 15 0).bind fun m1 =>
  if (m1.1 41 17) < 0 then
    f_X11_readText_L105 v1 0 m1
  else
    some ((m1.1 41 17), m1)
set_option maxHeartbeats 4000000 in
set_option maxRecDepth 100000 in
theorem b_X11_readText_B86 (e : Nat) (hd : 123 ≤ e) (v1 : Int32) (m : ej_M) {x : (Int32 × ej_M)} {res : Option Value × ej_H} {K : (Int32 × ej_M) → Prop} (hf : f_X11_readText_B86 v1 m = some x) (hK : K x) (h0 : ∀ q : (Int32 × ej_M), K q → res = (some (Value.int q.1), (ej_sh, q.2))) : ej_Z cX11_readText 3 (some .int) RX11 "readText" (e + 1) 86 [(0, .ref 41), (1, .int v1)] [] (ej_sh, m) res := by
  unfold f_X11_readText_B86 at hf
  refine z_aload_n (pc := 86) (i := 0) (j := 0) dX11_readText_86 rfl rfl ?_
  refine z_iconst (pc := 87) dX11_readText_87 ki_0 ?_
  obtain ⟨m1, hm1, hf⟩ := Option.bind_eq_some_iff.mp hf
  refine z_oputI (pc := 88) dX11_readText_88 lf_RX11_143 sh_41 rfl hm1 ?_
  refine z_aload_n (pc := 91) (i := 0) (j := 0) dX11_readText_91 rfl rfl ?_
  refine z_ogetI (pc := 92) dX11_readText_92 lf_RX11_149 sh_41 rfl rfl ?_
  refine z_if_lt (pc := 95) (tgt := 103) dX11_readText_95 (by decide) (fun hc => ?_) (fun hc => ?_)
  · rw [if_pos hc] at hf
    refine z_iconst (pc := 103) dX11_readText_103 ki_0 ?_
    refine z_istore_n (pc := 104) (i := 2) (ls' := [(2, .int 0), (0, .ref 41), (1, .int v1)]) dX11_readText_104 rfl (Nat.le_of_ble_eq_true rfl) rfl ?_
    exact z_pick [1, 2, 0] rfl (b_X11_readText_L105 e hd v1 0 m1 (K := K) hf hK  h0)
  · rw [if_neg hc] at hf
    refine z_aload_n (pc := 98) (i := 0) (j := 0) dX11_readText_98 rfl rfl ?_
    refine z_ogetI (pc := 99) dX11_readText_99 lf_RX11_149 sh_41 rfl rfl ?_
    obtain rfl := Option.some.inj hf
    rw [h0 _ hK]
    exact z_iret dX11_readText_102 rfl rfl
def f_X11_readText_B64 (v1 : Int32) (m : ej_M) : Option (Int32 × ej_M) :=
  if 0 ≤ (m.1 41 17) then
    f_X11_readText_B86 v1 m
  else
    if (m.1 41 15) ≤ (m.1 41 16) then
      f_X11_readText_B86 v1 m
    else
      (f_X11_faulty m).bind fun q1 =>
      f_X11_readText_B86 v1 q1.2
set_option maxHeartbeats 4000000 in
set_option maxRecDepth 100000 in
theorem b_X11_readText_B64 (e : Nat) (hd : 123 ≤ e) (v1 : Int32) (m : ej_M) {x : (Int32 × ej_M)} {res : Option Value × ej_H} {K : (Int32 × ej_M) → Prop} (hf : f_X11_readText_B64 v1 m = some x) (hK : K x) (h0 : ∀ q : (Int32 × ej_M), K q → res = (some (Value.int q.1), (ej_sh, q.2))) : ej_Z cX11_readText 3 (some .int) RX11 "readText" (e + 1) 64 [(0, .ref 41), (1, .int v1)] [] (ej_sh, m) res := by
  unfold f_X11_readText_B64 at hf
  refine z_aload_n (pc := 64) (i := 0) (j := 0) dX11_readText_64 rfl rfl ?_
  refine z_ogetI (pc := 65) dX11_readText_65 lf_RX11_149 sh_41 rfl rfl ?_
  refine z_if_ge (pc := 68) (tgt := 86) dX11_readText_68 (by decide) (fun hc => ?_) (fun hc => ?_)
  · rw [if_pos hc] at hf
    exact z_pick [0, 1] rfl (b_X11_readText_B86 e hd v1 m (K := K) hf hK  h0)
  · rw [if_neg hc] at hf
    refine z_aload_n (pc := 71) (i := 0) (j := 0) dX11_readText_71 rfl rfl ?_
    refine z_ogetI (pc := 72) dX11_readText_72 lf_RX11_146 sh_41 rfl rfl ?_
    refine z_aload_n (pc := 75) (i := 0) (j := 0) dX11_readText_75 rfl rfl ?_
    refine z_ogetI (pc := 76) dX11_readText_76 lf_RX11_143 sh_41 rfl rfl ?_
    refine z_icmp_ge (pc := 79) (tgt := 86) dX11_readText_79 (by decide) (fun hc => ?_) (fun hc => ?_)
    · rw [if_pos hc] at hf
      exact z_pick [0, 1] rfl (b_X11_readText_B86 e hd v1 m (K := K) hf hK  h0)
    · rw [if_neg hc] at hf
      refine z_aload_n (pc := 82) (i := 0) (j := 0) dX11_readText_82 rfl rfl ?_
      obtain ⟨q1, hq1, hf⟩ := Option.bind_eq_some_iff.mp hf
      refine z_oVv (pc := 83) (as := []) (rest := []) dX11_readText_83 lm_RX11_158 mf_X11_faulty mi_X11_faulty mv_X11_faulty rc_41 rfl rfl (Nat.le_of_ble_eq_true rfl) (c_X11_faulty e (by omega) m hq1) ?_
      exact z_pick [0, 1] rfl (b_X11_readText_B86 e hd v1 q1.2 (K := K) hf hK  h0)
def f_X11_readText_L31b (v1 : Int32) (m : ej_M) : Option ((ej_M) ⊕ (Int32 × ej_M)) :=
  if 0 ≤ (m.1 41 17) then
    (f_X11_readText_B64 v1 m).map fun y => (Sum.inr y)
  else
    (f_X11_look m).bind fun q1 =>
    if q1.1 = 59 then
      (oj_pf q1.2 41 16 ((q1.2.1 41 16) + 1)).bind fun m2 =>
      (f_X11_line m2).bind fun q3 =>
      some (Sum.inl (q3.2))
    else
      (f_X11_readText_B64 v1 q1.2).map fun y => (Sum.inr y)
set_option maxHeartbeats 4000000 in
set_option maxRecDepth 100000 in
theorem b_X11_readText_L31b (e : Nat) (hd : 123 ≤ e) (v1 : Int32) (m : ej_M) {x : ((ej_M) ⊕ (Int32 × ej_M))} {res : Option Value × ej_H} {K : ((ej_M) ⊕ (Int32 × ej_M)) → Prop} (hf : f_X11_readText_L31b v1 m = some x) (hK : K x) (h1 : ∀ q : (ej_M), K (Sum.inl q) → ej_Z cX11_readText 3 (some .int) RX11 "readText" (e + 1) 31 [(0, .ref 41), (1, .int v1)] [] (ej_sh, q) res) (h0 : ∀ q : (Int32 × ej_M), K (Sum.inr q) → res = (some (Value.int q.1), (ej_sh, q.2))) : ej_Z cX11_readText 3 (some .int) RX11 "readText" (e + 1) 31 [(0, .ref 41), (1, .int v1)] [] (ej_sh, m) res := by
  unfold f_X11_readText_L31b at hf
  refine z_aload_n (pc := 31) (i := 0) (j := 0) dX11_readText_31 rfl rfl ?_
  refine z_ogetI (pc := 32) dX11_readText_32 lf_RX11_149 sh_41 rfl rfl ?_
  refine z_if_ge (pc := 35) (tgt := 64) dX11_readText_35 (by decide) (fun hc => ?_) (fun hc => ?_)
  · rw [if_pos hc] at hf
    obtain ⟨y, hy, hxy⟩ := Option.map_eq_some_iff.mp hf
    subst hxy
    exact z_pick [0, 1] rfl (b_X11_readText_B64 e hd v1 m (K := fun y => K (Sum.inr y)) hy hK  h0)
  · rw [if_neg hc] at hf
    refine z_aload_n (pc := 38) (i := 0) (j := 0) dX11_readText_38 rfl rfl ?_
    obtain ⟨q1, hq1, hf⟩ := Option.bind_eq_some_iff.mp hf
    refine z_oVi (pc := 39) (as := []) (rest := []) dX11_readText_39 lm_RX11_161 mf_X11_look mi_X11_look mv_X11_look rc_41 rfl rfl (Nat.le_of_ble_eq_true rfl) (c_X11_look e (by omega) m hq1) ?_
    refine z_bipush (pc := 42) dX11_readText_42 kb_59 ?_
    refine z_icmp_ne (pc := 44) (tgt := 64) dX11_readText_44 (by decide) (fun hc => ?_) (fun hc => ?_)
    · rw [if_neg hc] at hf
      obtain ⟨y, hy, hxy⟩ := Option.map_eq_some_iff.mp hf
      subst hxy
      exact z_pick [0, 1] rfl (b_X11_readText_B64 e hd v1 q1.2 (K := fun y => K (Sum.inr y)) hy hK  h0)
    · rw [if_pos hc] at hf
      refine z_aload_n (pc := 47) (i := 0) (j := 0) dX11_readText_47 rfl rfl ?_
      refine z_dup (pc := 48) dX11_readText_48 rfl ?_
      refine z_ogetI (pc := 49) dX11_readText_49 lf_RX11_146 sh_41 rfl rfl ?_
      refine z_iconst (pc := 52) dX11_readText_52 ki_1 ?_
      refine z_iadd (pc := 53) dX11_readText_53 ?_
      obtain ⟨m2, hm2, hf⟩ := Option.bind_eq_some_iff.mp hf
      refine z_oputI (pc := 54) dX11_readText_54 lf_RX11_146 sh_41 rfl hm2 ?_
      refine z_aload_n (pc := 57) (i := 0) (j := 0) dX11_readText_57 rfl rfl ?_
      obtain ⟨q3, hq3, hf⟩ := Option.bind_eq_some_iff.mp hf
      refine z_oVv (pc := 58) (as := []) (rest := []) dX11_readText_58 lm_RX11_197 mf_X11_line mi_X11_line mv_X11_line rc_41 rfl rfl (Nat.le_of_ble_eq_true rfl) (c_X11_line e (by omega) m2 hq3) ?_
      refine z_goto (pc := 61) (tgt := 31) dX11_readText_61 (by decide) ?_
      obtain rfl := Option.some.inj hf
      exact z_pick (ls' := [(0, .ref 41), (1, .int v1)]) [0, 1] rfl (h1 (q3.2) hK)
def f_X11_readText_L31 (v1 : Int32) (m : ej_M) : Option (Int32 × ej_M) := oj_loop (fun q : (ej_M) => f_X11_readText_L31b v1  q) oj_FU (m)
set_option maxHeartbeats 4000000 in
set_option maxRecDepth 100000 in
theorem b_X11_readText_L31 (e : Nat) (hd : 123 ≤ e) (v1 : Int32) (m : ej_M) {x : (Int32 × ej_M)} {res : Option Value × ej_H} {K : (Int32 × ej_M) → Prop} (hf : f_X11_readText_L31 v1 m = some x) (hK : K x) (h0 : ∀ q : (Int32 × ej_M), K q → res = (some (Value.int q.1), (ej_sh, q.2))) : ej_Z cX11_readText 3 (some .int) RX11 "readText" (e + 1) 31 [(0, .ref 41), (1, .int v1)] [] (ej_sh, m) res :=
  oj_loop_Z (body := fun q : (ej_M) => f_X11_readText_L31b v1  q) (P := fun q : (ej_M) => ej_Z cX11_readText 3 (some .int) RX11 "readText" (e + 1) 31 [(0, .ref 41), (1, .int v1)] [] (ej_sh, q) res) (K := K) (fun s x hb hl hr => b_X11_readText_L31b e hd v1  s (K := fun x => (∀ s' : (ej_M), x = Sum.inl s' → ej_Z cX11_readText 3 (some .int) RX11 "readText" (e + 1) 31 [(0, .ref 41), (1, .int v1)] [] (ej_sh, s') res) ∧ ∀ e, x = Sum.inr e → K e) hb ⟨hl, hr⟩ (fun q hq => hq.1 q rfl) (fun q hq => h0 q (hq.2 _ rfl))) oj_FU (m) x hf hK
def f_X11_readText (v1 : Int32) (m : ej_M) : Option (Int32 × ej_M) :=
  (oj_pf m 41 16 0).bind fun m1 =>
  (oj_pf m1 41 17 (-1)).bind fun m2 =>
  (oj_pf m2 41 18 0).bind fun m3 =>
  (oj_pf m3 41 19 0).bind fun m4 =>
  (oj_st 0 m4 51 1 0).bind fun m5 =>
  (f_X11_line m5).bind fun q6 =>
  f_X11_readText_L31 v1 q6.2
set_option maxHeartbeats 4000000 in
set_option maxRecDepth 100000 in
theorem b_X11_readText (e : Nat) (hd : 123 ≤ e) (v1 : Int32) (m : ej_M) {x : (Int32 × ej_M)} {res : Option Value × ej_H} {K : (Int32 × ej_M) → Prop} (hf : f_X11_readText v1 m = some x) (hK : K x) (h0 : ∀ q : (Int32 × ej_M), K q → res = (some (Value.int q.1), (ej_sh, q.2))) : ej_Z cX11_readText 3 (some .int) RX11 "readText" (e + 1) 0 [(0, .ref 41), (1, .int v1)] [] (ej_sh, m) res := by
  unfold f_X11_readText at hf
  refine z_aload_n (pc := 0) (i := 0) (j := 0) dX11_readText_0 rfl rfl ?_
  refine z_iconst (pc := 1) dX11_readText_1 ki_0 ?_
  obtain ⟨m1, hm1, hf⟩ := Option.bind_eq_some_iff.mp hf
  refine z_oputI (pc := 2) dX11_readText_2 lf_RX11_146 sh_41 rfl hm1 ?_
  refine z_aload_n (pc := 5) (i := 0) (j := 0) dX11_readText_5 rfl rfl ?_
  refine z_iconst (pc := 6) dX11_readText_6 ki_n1 ?_
  obtain ⟨m2, hm2, hf⟩ := Option.bind_eq_some_iff.mp hf
  refine z_oputI (pc := 7) dX11_readText_7 lf_RX11_149 sh_41 rfl hm2 ?_
  refine z_aload_n (pc := 10) (i := 0) (j := 0) dX11_readText_10 rfl rfl ?_
  refine z_iconst (pc := 11) dX11_readText_11 ki_0 ?_
  obtain ⟨m3, hm3, hf⟩ := Option.bind_eq_some_iff.mp hf
  refine z_oputI (pc := 12) dX11_readText_12 lf_RX11_155 sh_41 rfl hm3 ?_
  refine z_aload_n (pc := 15) (i := 0) (j := 0) dX11_readText_15 rfl rfl ?_
  refine z_iconst (pc := 16) dX11_readText_16 ki_0 ?_
  obtain ⟨m4, hm4, hf⟩ := Option.bind_eq_some_iff.mp hf
  refine z_oputI (pc := 17) dX11_readText_17 lf_RX11_152 sh_41 rfl hm4 ?_
  refine z_aload_n (pc := 20) (i := 0) (j := 0) dX11_readText_20 rfl rfl ?_
  refine z_ogetR (pc := 21) dX11_readText_21 lf_RX11_38 sh_41 rfl rfl rfl ?_
  refine z_iconst (pc := 24) dX11_readText_24 ki_1 ?_
  refine z_iconst (pc := 25) dX11_readText_25 ki_0 ?_
  obtain ⟨m5, hm5, hf⟩ := Option.bind_eq_some_iff.mp hf
  refine z_oiast (pc := 26) dX11_readText_26 hm5 ?_
  refine z_aload_n (pc := 27) (i := 0) (j := 0) dX11_readText_27 rfl rfl ?_
  obtain ⟨q6, hq6, hf⟩ := Option.bind_eq_some_iff.mp hf
  refine z_oVv (pc := 28) (as := []) (rest := []) dX11_readText_28 lm_RX11_197 mf_X11_line mi_X11_line mv_X11_line rc_41 rfl rfl (Nat.le_of_ble_eq_true rfl) (c_X11_line e (by omega) m5 hq6) ?_
  exact z_pick [0, 1] rfl (b_X11_readText_L31 e hd v1 q6.2 (K := K) hf hK  h0)
set_option maxHeartbeats 4000000 in
set_option maxRecDepth 100000 in
theorem c_X11_readText (d : Nat) (hd : 124 ≤ d) (v1 : Int32) (m : ej_M) {q : (Int32 × ej_M)} (hf : f_X11_readText v1 m = some q) : ej_Ct yX11_readText cX11_readText 3 (some .int) d [.ref 41, .int v1] (ej_sh, m) ((some (Value.int q.1), (ej_sh, q.2)) : Option Value × ej_H) := by
  obtain ⟨e, rfl⟩ : ∃ e, d = e + 1 := ⟨d - 1, by omega⟩
  exact z_met (by decide +kernel) (Nat.le_of_ble_eq_true rfl) (b_X11_readText e (by omega) v1 m (K := fun z => ((some (Value.int q.1), (ej_sh, q.2)) : Option Value × ej_H) = (some (Value.int z.1), (ej_sh, z.2))) hf rfl (fun _ h => h))
def f_X11_law  (m : ej_M) : Option (Int32 × ej_M) :=
  (f_X11_readText 0 m).bind fun q1 =>
  if q1.1 < 0 then
    (oj_pz q1.2 41 27 1).bind fun m2 =>
    some (1, m2)
  else
    some (((-100) - q1.1), q1.2)
set_option maxHeartbeats 4000000 in
set_option maxRecDepth 100000 in
theorem b_X11_law (e : Nat) (hd : 124 ≤ e)  (m : ej_M) {x : (Int32 × ej_M)} {res : Option Value × ej_H} {K : (Int32 × ej_M) → Prop} (hf : f_X11_law  m = some x) (hK : K x) (h0 : ∀ q : (Int32 × ej_M), K q → res = (some (Value.int q.1), (ej_sh, q.2))) : ej_Z cX11_law 2 (some .int) RX11 "law" (e + 1) 0 [(0, .ref 41)] [] (ej_sh, m) res := by
  unfold f_X11_law at hf
  refine z_aload_n (pc := 0) (i := 0) (j := 0) dX11_law_0 rfl rfl ?_
  refine z_iconst (pc := 1) dX11_law_1 ki_0 ?_
  obtain ⟨q1, hq1, hf⟩ := Option.bind_eq_some_iff.mp hf
  refine z_oVi (pc := 2) (as := [.int 0]) (rest := []) dX11_law_2 lm_RX11_205 mf_X11_readText mi_X11_readText mv_X11_readText rc_41 rfl rfl (Nat.le_of_ble_eq_true rfl) (c_X11_readText e (by omega) 0 m hq1) ?_
  refine z_istore_n (pc := 5) (i := 1) (ls' := [(1, .int q1.1), (0, .ref 41)]) dX11_law_5 rfl (Nat.le_of_ble_eq_true rfl) rfl ?_
  refine z_iload_n (pc := 6) (i := 1) (j := 0) dX11_law_6 rfl rfl ?_
  refine z_if_lt (pc := 7) (tgt := 15) dX11_law_7 (by decide) (fun hc => ?_) (fun hc => ?_)
  · rw [if_pos hc] at hf
    refine z_aload_n (pc := 15) (i := 0) (j := 1) dX11_law_15 rfl rfl ?_
    refine z_iconst (pc := 16) dX11_law_16 ki_1 ?_
    obtain ⟨m2, hm2, hf⟩ := Option.bind_eq_some_iff.mp hf
    refine z_oputZ (pc := 17) dX11_law_17 lf_RX11_208 sh_41 rfl hm2 ?_
    refine z_iconst (pc := 20) dX11_law_20 ki_1 ?_
    obtain rfl := Option.some.inj hf
    rw [h0 _ hK]
    exact z_iret dX11_law_21 rfl rfl
  · rw [if_neg hc] at hf
    refine z_bipush (pc := 10) dX11_law_10 kb_n100 ?_
    refine z_iload_n (pc := 12) (i := 1) (j := 0) dX11_law_12 rfl rfl ?_
    refine z_isub (pc := 13) dX11_law_13 ?_
    obtain rfl := Option.some.inj hf
    rw [h0 _ hK]
    exact z_iret dX11_law_14 rfl rfl
set_option maxHeartbeats 4000000 in
set_option maxRecDepth 100000 in
theorem c_X11_law (d : Nat) (hd : 125 ≤ d)  (m : ej_M) {q : (Int32 × ej_M)} (hf : f_X11_law  m = some q) : ej_Ct yX11_law cX11_law 2 (some .int) d [.ref 41] (ej_sh, m) ((some (Value.int q.1), (ej_sh, q.2)) : Option Value × ej_H) := by
  obtain ⟨e, rfl⟩ : ∃ e, d = e + 1 := ⟨d - 1, by omega⟩
  exact z_met (by decide +kernel) (Nat.le_of_ble_eq_true rfl) (b_X11_law e (by omega)  m (K := fun z => ((some (Value.int q.1), (ej_sh, q.2)) : Option Value × ej_H) = (some (Value.int z.1), (ej_sh, z.2))) hf rfl (fun _ h => h))
def f_X10_insert_L3b (v0 : Nat) (v2 : Int32) (v3 : Int32) (v4 : Int32) (m : ej_M) : Option ((Int32 × ej_M) ⊕ (Unit × ej_M)) :=
  if v4 ≤ v2 then
    (f_X10_lay v0 v2 v3 m).bind fun q1 =>
    some (Sum.inr ((), q1.2))
  else
    (f_X10_at v0 (v4 - 1) m).bind fun q2 =>
    (f_X10_lay v0 v4 q2.1 q2.2).bind fun q3 =>
    some (Sum.inl ((v4 + (-1)), q3.2))
set_option maxHeartbeats 4000000 in
set_option maxRecDepth 100000 in
theorem b_X10_insert_L3b (e : Nat) (hd : 0 ≤ e) (v0 : Nat) (v2 : Int32) (v3 : Int32) (v4 : Int32) (m : ej_M) {x : ((Int32 × ej_M) ⊕ (Unit × ej_M))} {res : Option Value × ej_H} {K : ((Int32 × ej_M) ⊕ (Unit × ej_M)) → Prop} (hf : f_X10_insert_L3b v0 v2 v3 v4 m = some x) (hK : K x) (h1 : ∀ q : (Int32 × ej_M), K (Sum.inl q) → ej_Z cX10_insert 5 none RX10 "insert" (e + 1) 3 [(0, .ref v0), (2, .int v2), (3, .int v3), (4, .int q.1)] [] (ej_sh, q.2) res) (h0 : ∀ q : (Unit × ej_M), K (Sum.inr q) → res = (none, (ej_sh, q.2))) : ej_Z cX10_insert 5 none RX10 "insert" (e + 1) 3 [(0, .ref v0), (2, .int v2), (3, .int v3), (4, .int v4)] [] (ej_sh, m) res := by
  unfold f_X10_insert_L3b at hf
  refine z_iload (pc := 3) (i := 4) (j := 3) dX10_insert_3 rfl ?_
  refine z_iload_n (pc := 5) (i := 2) (j := 1) dX10_insert_5 rfl rfl ?_
  refine z_icmp_le (pc := 6) (tgt := 29) dX10_insert_6 (by decide) (fun hc => ?_) (fun hc => ?_)
  · rw [if_pos hc] at hf
    refine z_aload_n (pc := 29) (i := 0) (j := 0) dX10_insert_29 rfl rfl ?_
    refine z_iload_n (pc := 30) (i := 2) (j := 1) dX10_insert_30 rfl rfl ?_
    refine z_iload_n (pc := 31) (i := 3) (j := 2) dX10_insert_31 rfl rfl ?_
    obtain ⟨q1, hq1, hf⟩ := Option.bind_eq_some_iff.mp hf
    refine z_oSv (pc := 32) (as := [.ref v0, .int v2, .int v3]) (rest := []) dX10_insert_32 lm_RX10_316 mf_X10_lay ms_X10_lay rfl rfl (Nat.le_of_ble_eq_true rfl) (c_X10_lay e (by omega) v0 v2 v3 m hq1) ?_
    obtain rfl := Option.some.inj hf
    rw [h0 _ hK]
    exact z_ret dX10_insert_35 rfl
  · rw [if_neg hc] at hf
    refine z_aload_n (pc := 9) (i := 0) (j := 0) dX10_insert_9 rfl rfl ?_
    refine z_iload (pc := 10) (i := 4) (j := 3) dX10_insert_10 rfl ?_
    refine z_aload_n (pc := 12) (i := 0) (j := 0) dX10_insert_12 rfl rfl ?_
    refine z_iload (pc := 13) (i := 4) (j := 3) dX10_insert_13 rfl ?_
    refine z_iconst (pc := 15) dX10_insert_15 ki_1 ?_
    refine z_isub (pc := 16) dX10_insert_16 ?_
    obtain ⟨q2, hq2, hf⟩ := Option.bind_eq_some_iff.mp hf
    refine z_oSi (pc := 17) (as := [.ref v0, .int (v4 - 1)]) (rest := [.int v4, .ref v0]) dX10_insert_17 lm_RX10_125 mf_X10_at ms_X10_at rfl rfl (Nat.le_of_ble_eq_true rfl) (c_X10_at e (by omega) v0 (v4 - 1) m hq2) ?_
    obtain ⟨q3, hq3, hf⟩ := Option.bind_eq_some_iff.mp hf
    refine z_oSv (pc := 20) (as := [.ref v0, .int v4, .int q2.1]) (rest := []) dX10_insert_20 lm_RX10_316 mf_X10_lay ms_X10_lay rfl rfl (Nat.le_of_ble_eq_true rfl) (c_X10_lay e (by omega) v0 v4 q2.1 q2.2 hq3) ?_
    refine z_iinc (pc := 23) (j := 3) (ls' := [(4, .int (v4 + (-1))), (0, .ref v0), (2, .int v2), (3, .int v3)]) dX10_insert_23 rfl ki_n1 (Nat.le_of_ble_eq_true rfl) rfl ?_
    refine z_goto (pc := 26) (tgt := 3) dX10_insert_26 (by decide) ?_
    obtain rfl := Option.some.inj hf
    exact z_pick (ls' := [(0, .ref v0), (2, .int v2), (3, .int v3), (4, .int (v4 + (-1)))]) [1, 2, 3, 0] rfl (h1 ((v4 + (-1)), q3.2) hK)
def f_X10_insert_L3 (v0 : Nat) (v2 : Int32) (v3 : Int32) (v4 : Int32) (m : ej_M) : Option (Unit × ej_M) := oj_loop (fun q : (Int32 × ej_M) => f_X10_insert_L3b v0 v2 v3 q.1 q.2) oj_FU (v4, m)
set_option maxHeartbeats 4000000 in
set_option maxRecDepth 100000 in
theorem b_X10_insert_L3 (e : Nat) (hd : 0 ≤ e) (v0 : Nat) (v2 : Int32) (v3 : Int32) (v4 : Int32) (m : ej_M) {x : (Unit × ej_M)} {res : Option Value × ej_H} {K : (Unit × ej_M) → Prop} (hf : f_X10_insert_L3 v0 v2 v3 v4 m = some x) (hK : K x) (h0 : ∀ q : (Unit × ej_M), K q → res = (none, (ej_sh, q.2))) : ej_Z cX10_insert 5 none RX10 "insert" (e + 1) 3 [(0, .ref v0), (2, .int v2), (3, .int v3), (4, .int v4)] [] (ej_sh, m) res :=
  oj_loop_Z (body := fun q : (Int32 × ej_M) => f_X10_insert_L3b v0 v2 v3 q.1 q.2) (P := fun q : (Int32 × ej_M) => ej_Z cX10_insert 5 none RX10 "insert" (e + 1) 3 [(0, .ref v0), (2, .int v2), (3, .int v3), (4, .int q.1)] [] (ej_sh, q.2) res) (K := K) (fun s x hb hl hr => b_X10_insert_L3b e hd v0 v2 v3  s.1 s.2 (K := fun x => (∀ s' : (Int32 × ej_M), x = Sum.inl s' → ej_Z cX10_insert 5 none RX10 "insert" (e + 1) 3 [(0, .ref v0), (2, .int v2), (3, .int v3), (4, .int s'.1)] [] (ej_sh, s'.2) res) ∧ ∀ e, x = Sum.inr e → K e) hb ⟨hl, hr⟩ (fun q hq => hq.1 q rfl) (fun q hq => h0 q (hq.2 _ rfl))) oj_FU (v4, m) x hf hK
def f_X10_insert (v0 : Nat) (v1 : Int32) (v2 : Int32) (v3 : Int32) (m : ej_M) : Option (Unit × ej_M) :=
  f_X10_insert_L3 v0 v2 v3 v1 m
set_option maxHeartbeats 4000000 in
set_option maxRecDepth 100000 in
theorem b_X10_insert (e : Nat) (hd : 0 ≤ e) (v0 : Nat) (v1 : Int32) (v2 : Int32) (v3 : Int32) (m : ej_M) {x : (Unit × ej_M)} {res : Option Value × ej_H} {K : (Unit × ej_M) → Prop} (hf : f_X10_insert v0 v1 v2 v3 m = some x) (hK : K x) (h0 : ∀ q : (Unit × ej_M), K q → res = (none, (ej_sh, q.2))) : ej_Z cX10_insert 5 none RX10 "insert" (e + 1) 0 [(0, .ref v0), (1, .int v1), (2, .int v2), (3, .int v3)] [] (ej_sh, m) res := by
  unfold f_X10_insert at hf
  refine z_iload_n (pc := 0) (i := 1) (j := 1) dX10_insert_0 rfl rfl ?_
  refine z_istore (pc := 1) (i := 4) (ls' := [(4, .int v1), (0, .ref v0), (1, .int v1), (2, .int v2), (3, .int v3)]) dX10_insert_1 (Nat.le_of_ble_eq_true rfl) rfl ?_
  exact z_pick [1, 3, 4, 0] rfl (b_X10_insert_L3 e hd v0 v2 v3 v1 m (K := K) hf hK  h0)
set_option maxHeartbeats 4000000 in
set_option maxRecDepth 100000 in
theorem c_X10_insert (d : Nat) (hd : 1 ≤ d) (v0 : Nat) (v1 : Int32) (v2 : Int32) (v3 : Int32) (m : ej_M) {q : (Unit × ej_M)} (hf : f_X10_insert v0 v1 v2 v3 m = some q) : ej_Ct yX10_insert cX10_insert 5 none d [.ref v0, .int v1, .int v2, .int v3] (ej_sh, m) ((none, (ej_sh, q.2)) : Option Value × ej_H) := by
  obtain ⟨e, rfl⟩ : ∃ e, d = e + 1 := ⟨d - 1, by omega⟩
  exact z_met (by decide +kernel) (Nat.le_of_ble_eq_true rfl) (b_X10_insert e (by omega) v0 v1 v2 v3 m (K := fun z => ((none, (ej_sh, q.2)) : Option Value × ej_H) = (none, (ej_sh, z.2))) hf rfl (fun _ h => h))
