/-! THE STEADY SHAPE: what the two objects are made of, by places (printed by wip/gen/genlinks.py) -/
def ej_sh : ej_S := [
  (10, 10, [some 1, some 6, some 11, some 15, some 18, some 22, some 25, some 28, some 34, some 37]),
  (2, 8, [some 2, none, none, some 3, none, some 4, none, some 5]),
  (50, 120, []),
  (50, 121, []),
  (50, 121, []),
  (50, 121, []),
  (4, 16, [some 1, some 7, none, some 8, none, none, none, none, none, some 9, none, none, none, some 10, none, none]),
  (50, 9, []),
  (50, 8, []),
  (50, 8, []),
  (50, 5832, []),
  (1, 6, [some 6, some 12, some 13, some 14, none, none]),
  (50, 40, []),
  (50, 40, []),
  (50, 40, []),
  (8, 4, [some 6, some 16, some 17, none]),
  (50, 9, []),
  (50, 8, []),
  (3, 7, [some 6, some 19, some 20, some 21, none, none, none]),
  (50, 8, []),
  (50, 8, []),
  (50, 8, []),
  (7, 3, [some 6, some 23, some 24]),
  (50, 8, []),
  (50, 8, []),
  (5, 3, [some 6, some 26, some 27]),
  (50, 256, []),
  (50, 8, []),
  (9, 7, [some 6, some 29, some 30, some 31, some 32, some 33, none]),
  (50, 6, []),
  (50, 6, []),
  (50, 6, []),
  (50, 720, []),
  (50, 720, []),
  (0, 5, [some 35, none, some 36, none, none]),
  (50, 50, []),
  (50, 24, []),
  (6, 3, [some 38, some 39, some 40]),
  (50, 6, []),
  (50, 6, []),
  (53, 360, []),
  (11, 51, [none, none, some 42, some 43, none, none, none, none, none, none, some 44, some 45, some 46, some 47, some 48, none, none, none, none, none, some 49, some 50, some 51, some 52, some 53, some 54, some 55, none, some 56, none, some 57, none, none, some 58, some 59, some 60, some 61, some 62, none, none, none, none, some 63, none, some 64, none, some 65, some 66, some 67, some 68, some 69]),
  (50, 9, []),
  (50, 8, []),
  (50, 40, []),
  (50, 40, []),
  (50, 40, []),
  (50, 40, []),
  (51, 120, []),
  (51, 260, []),
  (50, 260, []),
  (50, 2, []),
  (52, 122, []),
  (52, 122, []),
  (50, 6, []),
  (50, 130, []),
  (50, 9, []),
  (50, 9, []),
  (50, 8, []),
  (50, 256, []),
  (52, 720, []),
  (52, 720, []),
  (50, 8, []),
  (50, 8, []),
  (50, 50, []),
  (50, 24, []),
  (50, 6, []),
  (50, 6, []),
  (53, 360, []),
  (53, 60, [])]
theorem sh_0 : ej_sh[0]? = some (10, 10, [some 1, some 6, some 11, some 15, some 18, some 22, some 25, some 28, some 34, some 37]) := rfl
theorem sh_1 : ej_sh[1]? = some (2, 8, [some 2, none, none, some 3, none, some 4, none, some 5]) := rfl
theorem sh_2 : ej_sh[2]? = some (50, 120, []) := rfl
theorem sh_3 : ej_sh[3]? = some (50, 121, []) := rfl
theorem sh_4 : ej_sh[4]? = some (50, 121, []) := rfl
theorem sh_5 : ej_sh[5]? = some (50, 121, []) := rfl
theorem sh_6 : ej_sh[6]? = some (4, 16, [some 1, some 7, none, some 8, none, none, none, none, none, some 9, none, none, none, some 10, none, none]) := rfl
theorem sh_7 : ej_sh[7]? = some (50, 9, []) := rfl
theorem sh_8 : ej_sh[8]? = some (50, 8, []) := rfl
theorem sh_9 : ej_sh[9]? = some (50, 8, []) := rfl
theorem sh_10 : ej_sh[10]? = some (50, 5832, []) := rfl
theorem sh_11 : ej_sh[11]? = some (1, 6, [some 6, some 12, some 13, some 14, none, none]) := rfl
theorem sh_12 : ej_sh[12]? = some (50, 40, []) := rfl
theorem sh_13 : ej_sh[13]? = some (50, 40, []) := rfl
theorem sh_14 : ej_sh[14]? = some (50, 40, []) := rfl
theorem sh_15 : ej_sh[15]? = some (8, 4, [some 6, some 16, some 17, none]) := rfl
theorem sh_16 : ej_sh[16]? = some (50, 9, []) := rfl
theorem sh_17 : ej_sh[17]? = some (50, 8, []) := rfl
theorem sh_18 : ej_sh[18]? = some (3, 7, [some 6, some 19, some 20, some 21, none, none, none]) := rfl
theorem sh_19 : ej_sh[19]? = some (50, 8, []) := rfl
theorem sh_20 : ej_sh[20]? = some (50, 8, []) := rfl
theorem sh_21 : ej_sh[21]? = some (50, 8, []) := rfl
theorem sh_22 : ej_sh[22]? = some (7, 3, [some 6, some 23, some 24]) := rfl
theorem sh_23 : ej_sh[23]? = some (50, 8, []) := rfl
theorem sh_24 : ej_sh[24]? = some (50, 8, []) := rfl
theorem sh_25 : ej_sh[25]? = some (5, 3, [some 6, some 26, some 27]) := rfl
theorem sh_26 : ej_sh[26]? = some (50, 256, []) := rfl
theorem sh_27 : ej_sh[27]? = some (50, 8, []) := rfl
theorem sh_28 : ej_sh[28]? = some (9, 7, [some 6, some 29, some 30, some 31, some 32, some 33, none]) := rfl
theorem sh_29 : ej_sh[29]? = some (50, 6, []) := rfl
theorem sh_30 : ej_sh[30]? = some (50, 6, []) := rfl
theorem sh_31 : ej_sh[31]? = some (50, 6, []) := rfl
theorem sh_32 : ej_sh[32]? = some (50, 720, []) := rfl
theorem sh_33 : ej_sh[33]? = some (50, 720, []) := rfl
theorem sh_34 : ej_sh[34]? = some (0, 5, [some 35, none, some 36, none, none]) := rfl
theorem sh_35 : ej_sh[35]? = some (50, 50, []) := rfl
theorem sh_36 : ej_sh[36]? = some (50, 24, []) := rfl
theorem sh_37 : ej_sh[37]? = some (6, 3, [some 38, some 39, some 40]) := rfl
theorem sh_38 : ej_sh[38]? = some (50, 6, []) := rfl
theorem sh_39 : ej_sh[39]? = some (50, 6, []) := rfl
theorem sh_40 : ej_sh[40]? = some (53, 360, []) := rfl
theorem sh_41 : ej_sh[41]? = some (11, 51, [none, none, some 42, some 43, none, none, none, none, none, none, some 44, some 45, some 46, some 47, some 48, none, none, none, none, none, some 49, some 50, some 51, some 52, some 53, some 54, some 55, none, some 56, none, some 57, none, none, some 58, some 59, some 60, some 61, some 62, none, none, none, none, some 63, none, some 64, none, some 65, some 66, some 67, some 68, some 69]) := rfl
theorem sh_42 : ej_sh[42]? = some (50, 9, []) := rfl
theorem sh_43 : ej_sh[43]? = some (50, 8, []) := rfl
theorem sh_44 : ej_sh[44]? = some (50, 40, []) := rfl
theorem sh_45 : ej_sh[45]? = some (50, 40, []) := rfl
theorem sh_46 : ej_sh[46]? = some (50, 40, []) := rfl
theorem sh_47 : ej_sh[47]? = some (50, 40, []) := rfl
theorem sh_48 : ej_sh[48]? = some (51, 120, []) := rfl
theorem sh_49 : ej_sh[49]? = some (51, 260, []) := rfl
theorem sh_50 : ej_sh[50]? = some (50, 260, []) := rfl
theorem sh_51 : ej_sh[51]? = some (50, 2, []) := rfl
theorem sh_52 : ej_sh[52]? = some (52, 122, []) := rfl
theorem sh_53 : ej_sh[53]? = some (52, 122, []) := rfl
theorem sh_54 : ej_sh[54]? = some (50, 6, []) := rfl
theorem sh_55 : ej_sh[55]? = some (50, 130, []) := rfl
theorem sh_56 : ej_sh[56]? = some (50, 9, []) := rfl
theorem sh_57 : ej_sh[57]? = some (50, 9, []) := rfl
theorem sh_58 : ej_sh[58]? = some (50, 8, []) := rfl
theorem sh_59 : ej_sh[59]? = some (50, 256, []) := rfl
theorem sh_60 : ej_sh[60]? = some (52, 720, []) := rfl
theorem sh_61 : ej_sh[61]? = some (52, 720, []) := rfl
theorem sh_62 : ej_sh[62]? = some (50, 8, []) := rfl
theorem sh_63 : ej_sh[63]? = some (50, 8, []) := rfl
theorem sh_64 : ej_sh[64]? = some (50, 50, []) := rfl
theorem sh_65 : ej_sh[65]? = some (50, 24, []) := rfl
theorem sh_66 : ej_sh[66]? = some (50, 6, []) := rfl
theorem sh_67 : ej_sh[67]? = some (50, 6, []) := rfl
theorem sh_68 : ej_sh[68]? = some (53, 360, []) := rfl
theorem sh_69 : ej_sh[69]? = some (53, 60, []) := rfl
theorem sh_len : ej_sh.length = 70 := rfl
/-! operations that may fail, at the steady shape -/
def oj_ld (t : Nat) (m : ej_M) (a : Nat) (i : Int32) : Option Int32 := match ej_al (ej_sh, m) a with
  | some q => if q.1 = t ∧ ¬ (i < 0 ∨ q.2 ≤ i.toNatClampNeg) then some (m.1 a i.toNatClampNeg) else none
  | none => none
def oj_ll (m : ej_M) (a : Nat) (i : Int32) : Option Int64 := match ej_sh[a]? with
  | some x => if x.1 = 53 ∧ ¬ (i < 0 ∨ x.2.1 ≤ i.toNatClampNeg) then some (m.2 a i.toNatClampNeg) else none
  | none => none
def oj_ln (m : ej_M) (a : Nat) : Option Int32 := match ej_al (ej_sh, m) a with
  | some q => if q.1 < 4 then some (Int32.ofNat q.2) else none
  | none => none
def oj_st (t : Nat) (m : ej_M) (a : Nat) (i : Int32) (v : Int32) : Option ej_M := match ej_sh[a]? with
  | some x => if x.1 = 50 + t ∧ ¬ (i < 0 ∨ x.2.1 ≤ i.toNatClampNeg) then some (ej_w m a i.toNatClampNeg v) else none
  | none => none
def oj_sl (m : ej_M) (a : Nat) (i : Int32) (v : Int64) : Option ej_M := match ej_sh[a]? with
  | some x => if x.1 = 53 ∧ ¬ (i < 0 ∨ x.2.1 ≤ i.toNatClampNeg) then some (ej_wl m a i.toNatClampNeg v) else none
  | none => none
def oj_pf (m : ej_M) (a j : Nat) (v : Int32) : Option ej_M := some (ej_w m a j v)
def oj_pz (m : ej_M) (a j : Nat) (v : Int32) : Option ej_M := if v = 0 ∨ v = 1 then some (ej_w m a j v) else none
def oj_sv (a : Nat) : Option Nat := if 2000 ≤ a ∧ a < 2000 + ej_stx.length then some (a + 1000) else none
def oj_sc (a : Nat) : Option Int32 := if 2000 ≤ a ∧ a < 2000 + ej_stx.length then some 0 else none
def oj_rz (v : Int32) (m : ej_M) : Option (Int32 × ej_M) := if v = 0 ∨ v = 1 then some (v, m) else none
def oj_rn (ty : FieldType) (v : Int32) (m : ej_M) : Option (Int32 × ej_M) := if narrow ty (.int v) = .int v then some (v, m) else none
def oj_dv (x y : Int32) : Option Int32 := if y = 0 then none else some (x / y)
def oj_rm (x y : Int32) : Option Int32 := if y = 0 then none else some (x - x / y * y)
/-- a loop: its body says how it goes on, or with what it ends -/
def oj_loop {S E : Type} (body : S → Option (S ⊕ E)) : Nat → S → Option E
  | 0, _ => none
  | k + 1, s => match body s with
    | none => none
    | some (.inl s') => oj_loop body k s'
    | some (.inr e) => some e
def oj_FU : Nat := 100000
theorem oj_loop_Z {S E : Type} {body : S → Option (S ⊕ E)} {P : S → Prop} {K : E → Prop} (hb : ∀ s x, body s = some x → (∀ s', x = .inl s' → P s') → (∀ e, x = .inr e → K e) → P s) : ∀ (k : Nat) (s : S) (e : E), oj_loop body k s = some e → K e → P s := by
  intro k
  induction k with
  | zero => intro s e h; cases h
  | succ k ih =>
    intro s e h hK
    unfold oj_loop at h
    cases hx : body s with
    | none => rw [hx] at h; cases h
    | some x =>
      rw [hx] at h
      refine hb s x hx (fun s' hs => ?_) (fun e' he => ?_)
      · subst hs
        exact ih s' e h hK
      · subst he
        cases h
        exact hK
section EJ
variable {cc : ByteArray} {nL : Nat} {rt : Option FieldType} {own nm : String} {d pc : Nat} {ls : List (Nat × Value)} {st : List Value} {m : ej_M} {res : Option Value × ej_H}
theorem z_pick {H : ej_H} {ls' : List (Nat × Value)} (ks : List Nat) (h : lv_pick ls ks = ls') (k : ej_Z cc nL rt own nm d pc ls' st H res) : ej_Z cc nL rt own nm d pc ls st H res := by
  refine z_lift (fun _ _ _ _ _ _ _ _ _ _ _ _ _ ad _ _ _ _ _ _ hC _ hl _ _ kk => kk _ (lv_sub hl ks ?_)) k
  subst h
  unfold lv_pick ej_lm
  rw [List.map_filterMap]
  congr 1
  funext x
  rw [List.getElem?_map]
theorem z_mono {H : ej_H} {d' : Nat} (h : d ≤ d') (k : ej_Z cc nL rt own nm d pc ls st H res) : ej_Z cc nL rt own nm d' pc ls st H res :=
  ⟨k.1, fun p l e R s m args below meth c A D cy ad Hc locs cells slots cells' slots' lsc Q hC hT hz h1 h2 => k.2 p l e R s m args below meth c A D cy ad Hc locs cells slots cells' slots' lsc Q hC hT hz (by omega) (by omega)⟩
theorem z_old {t a : Nat} {i v : Int32} (h : oj_ld t m a i = some v) : ∃ n, ej_al (ej_sh, m) a = some (t, n) ∧ vp_in i n ∧ v = m.1 a i.toNatClampNeg := by
  unfold oj_ld at h
  cases hq : ej_al (ej_sh, m) a with
  | none => rw [hq] at h; cases h
  | some q =>
    rw [hq] at h
    dsimp only at h
    by_cases hc : q.1 = t ∧ ¬ (i < 0 ∨ q.2 ≤ i.toNatClampNeg)
    · rw [if_pos hc] at h
      exact ⟨q.2, by rw [← hc.1], hc.2, (Option.some.inj h).symm⟩
    · rw [if_neg hc] at h; cases h

theorem z_oiald {a : Nat} {i v : Int32} (hd : decode cc pc = .ok (.iaload, 1)) (h : oj_ld 0 m a i = some v) (k : ej_Z cc nL rt own nm d (pc + 1) ls (.int v :: st) (ej_sh, m) res) : ej_Z cc nL rt own nm d pc ls (.int i :: .ref a :: st) (ej_sh, m) res := by
  obtain ⟨n, h1, h2, rfl⟩ := z_old h
  exact z_iald hd h1 h2 k
theorem z_obald {a : Nat} {i v : Int32} (hd : decode cc pc = .ok (.baload, 1)) (h : oj_ld 1 m a i = some v) (k : ej_Z cc nL rt own nm d (pc + 1) ls (.int v :: st) (ej_sh, m) res) : ej_Z cc nL rt own nm d pc ls (.int i :: .ref a :: st) (ej_sh, m) res := by
  obtain ⟨n, h1, h2, rfl⟩ := z_old h
  exact z_bald hd h1 h2 k
theorem z_osald {a : Nat} {i v : Int32} (hd : decode cc pc = .ok (.saload, 1)) (h : oj_ld 2 m a i = some v) (k : ej_Z cc nL rt own nm d (pc + 1) ls (.int v :: st) (ej_sh, m) res) : ej_Z cc nL rt own nm d pc ls (.int i :: .ref a :: st) (ej_sh, m) res := by
  obtain ⟨n, h1, h2, rfl⟩ := z_old h
  exact z_sald hd h1 h2 k
theorem z_olald {a : Nat} {i : Int32} {v : Int64} (hd : decode cc pc = .ok (.laload, 1)) (h : oj_ll m a i = some v) (k : ej_Z cc nL rt own nm d (pc + 1) ls (.long v :: st) (ej_sh, m) res) : ej_Z cc nL rt own nm d pc ls (.int i :: .ref a :: st) (ej_sh, m) res := by
  unfold oj_ll at h
  cases hq : ej_sh[a]? with
  | none => rw [hq] at h; cases h
  | some x =>
    rw [hq] at h
    obtain ⟨x1, n, rs⟩ := x
    dsimp only at h
    by_cases hc : x1 = 53 ∧ ¬ (i < 0 ∨ n ≤ i.toNatClampNeg)
    · rw [if_pos hc] at h
      obtain ⟨rfl, hc2⟩ := hc
      obtain rfl := Option.some.inj h
      exact z_lald (H := (ej_sh, m)) hd hq hc2 k
    · rw [if_neg hc] at h; cases h
theorem z_oalen {a : Nat} {v : Int32} (hd : decode cc pc = .ok (.arraylength, 1)) (h : oj_ln m a = some v) (k : ej_Z cc nL rt own nm d (pc + 1) ls (.int v :: st) (ej_sh, m) res) : ej_Z cc nL rt own nm d pc ls (.ref a :: st) (ej_sh, m) res := by
  unfold oj_ln at h
  cases hq : ej_al (ej_sh, m) a with
  | none => rw [hq] at h; cases h
  | some q =>
    rw [hq] at h
    dsimp only at h
    by_cases hc : q.1 < 4
    · rw [if_pos hc] at h
      exact z_alen (t := q.1) (n := q.2) hd hq hc (Option.some.inj h) k
    · rw [if_neg hc] at h; cases h
theorem z_ost {t a : Nat} {i v : Int32} {m1 : ej_M} (h : oj_st t m a i v = some m1) : ∃ n rs, ej_sh[a]? = some (50 + t, n, rs) ∧ vp_in i n ∧ m1 = ej_w m a i.toNatClampNeg v := by
  unfold oj_st at h
  cases hq : ej_sh[a]? with
  | none => rw [hq] at h; cases h
  | some x =>
    rw [hq] at h
    obtain ⟨x1, n, rs⟩ := x
    dsimp only at h
    by_cases hc : x1 = 50 + t ∧ ¬ (i < 0 ∨ n ≤ i.toNatClampNeg)
    · rw [if_pos hc] at h
      exact ⟨n, rs, by rw [hc.1], hc.2, (Option.some.inj h).symm⟩
    · rw [if_neg hc] at h; cases h

theorem z_oiast {a : Nat} {i x : Int32} {m1 : ej_M} (hd : decode cc pc = .ok (.iastore, 1)) (h : oj_st 0 m a i (x) = some m1) (k : ej_Z cc nL rt own nm d (pc + 1) ls st (ej_sh, m1) res) : ej_Z cc nL rt own nm d pc ls (.int x :: .int i :: .ref a :: st) (ej_sh, m) res := by
  obtain ⟨n, rs, h1, h2, rfl⟩ := z_ost h
  exact z_iast (H := (ej_sh, m)) hd h1 h2 k
theorem z_obast {a : Nat} {i x : Int32} {m1 : ej_M} (hd : decode cc pc = .ok (.bastore, 1)) (h : oj_st 1 m a i (vp_nar .byte x) = some m1) (k : ej_Z cc nL rt own nm d (pc + 1) ls st (ej_sh, m1) res) : ej_Z cc nL rt own nm d pc ls (.int x :: .int i :: .ref a :: st) (ej_sh, m) res := by
  obtain ⟨n, rs, h1, h2, rfl⟩ := z_ost h
  exact z_bast (H := (ej_sh, m)) hd h1 h2 k
theorem z_osast {a : Nat} {i x : Int32} {m1 : ej_M} (hd : decode cc pc = .ok (.sastore, 1)) (h : oj_st 2 m a i (vp_nar .short x) = some m1) (k : ej_Z cc nL rt own nm d (pc + 1) ls st (ej_sh, m1) res) : ej_Z cc nL rt own nm d pc ls (.int x :: .int i :: .ref a :: st) (ej_sh, m) res := by
  obtain ⟨n, rs, h1, h2, rfl⟩ := z_ost h
  exact z_sast (H := (ej_sh, m)) hd h1 h2 k
theorem z_olast {a : Nat} {i : Int32} {x : Int64} {m1 : ej_M} (hd : decode cc pc = .ok (.lastore, 1)) (h : oj_sl m a i x = some m1) (k : ej_Z cc nL rt own nm d (pc + 1) ls st (ej_sh, m1) res) : ej_Z cc nL rt own nm d pc ls (.long x :: .int i :: .ref a :: st) (ej_sh, m) res := by
  unfold oj_sl at h
  cases hq : ej_sh[a]? with
  | none => rw [hq] at h; cases h
  | some y =>
    rw [hq] at h
    obtain ⟨x1, n, rs⟩ := y
    dsimp only at h
    by_cases hc : x1 = 53 ∧ ¬ (i < 0 ∨ n ≤ i.toNatClampNeg)
    · rw [if_pos hc] at h
      obtain ⟨rfl, hc2⟩ := hc
      obtain rfl := Option.some.inj h
      exact z_last (H := (ej_sh, m)) hd hq hc2 k
    · rw [if_neg hc] at h; cases h
theorem z_ogetI {a c j N idx : Nat} {rs : List (Option Nat)} {f : Bool} {ty : FieldType} (hd : decode cc pc = .ok (.getfield idx, 3)) (hL : ej_FL own idx c j N f) (ha : ej_sh[a]? = some (c, N, rs)) (hty : ej_ty c j = ty) (hr : ej_isR ty = false) (k : ej_Z cc nL rt own nm d (pc + 3) ls (.int (m.1 a j) :: st) (ej_sh, m) res) : ej_Z cc nL rt own nm d pc ls (.ref a :: st) (ej_sh, m) res :=
  z_getI (H := (ej_sh, m)) hd hL ha (by rw [hty]; exact hr) k
theorem z_ogetR {a b c j N idx : Nat} {rs : List (Option Nat)} {f : Bool} {ty : FieldType} (hd : decode cc pc = .ok (.getfield idx, 3)) (hL : ej_FL own idx c j N f) (ha : ej_sh[a]? = some (c, N, rs)) (hty : ej_ty c j = ty) (hr : ej_isR ty = true) (hb : rs.getD j none = some b) (k : ej_Z cc nL rt own nm d (pc + 3) ls (.ref b :: st) (ej_sh, m) res) : ej_Z cc nL rt own nm d pc ls (.ref a :: st) (ej_sh, m) res :=
  z_getR (H := (ej_sh, m)) hd hL ha (by rw [hty]; exact hr) hb k
theorem z_oputI {a c j N idx : Nat} {rs : List (Option Nat)} {v : Int32} {m1 : ej_M} (hd : decode cc pc = .ok (.putfield idx, 3)) (hL : ej_FL own idx c j N false) (ha : ej_sh[a]? = some (c, N, rs)) (hty : ej_ty c j = .int) (h : oj_pf m a j v = some m1) (k : ej_Z cc nL rt own nm d (pc + 3) ls st (ej_sh, m1) res) : ej_Z cc nL rt own nm d pc ls (.int v :: .ref a :: st) (ej_sh, m) res := by
  obtain rfl := Option.some.inj h
  exact z_putI (H := (ej_sh, m)) hd hL ha (by rw [hty]; rfl) (by rw [hty]; rfl) (by rw [hty]; rfl) k
theorem z_oputZ {a c j N idx : Nat} {rs : List (Option Nat)} {v : Int32} {m1 : ej_M} (hd : decode cc pc = .ok (.putfield idx, 3)) (hL : ej_FL own idx c j N false) (ha : ej_sh[a]? = some (c, N, rs)) (hty : ej_ty c j = .boolean) (h : oj_pz m a j v = some m1) (k : ej_Z cc nL rt own nm d (pc + 3) ls st (ej_sh, m1) res) : ej_Z cc nL rt own nm d pc ls (.int v :: .ref a :: st) (ej_sh, m) res := by
  unfold oj_pz at h
  by_cases hc : v = 0 ∨ v = 1
  · rw [if_pos hc] at h
    obtain rfl := Option.some.inj h
    rcases hc with rfl | rfl
    · exact z_putI (H := (ej_sh, m)) hd hL ha (by rw [hty]; rfl) (by rw [hty]; rfl) (by rw [hty]; rfl) k
    · exact z_putI (H := (ej_sh, m)) hd hL ha (by rw [hty]; rfl) (by rw [hty]; rfl) (by rw [hty]; rfl) k
  · rw [if_neg hc] at h; cases h
theorem z_ogetSV {idx a b : Nat} (hd : decode cc pc = .ok (.getfield idx, 3)) (hw : Cond.fieldLink own idx "java/lang/String" "value" "[B" ∈ ej_tbl) (h : oj_sv a = some b) (k : ej_Z cc nL rt own nm d (pc + 3) ls (.ref b :: st) (ej_sh, m) res) : ej_Z cc nL rt own nm d pc ls (.ref a :: st) (ej_sh, m) res := by
  unfold oj_sv at h
  by_cases hc : 2000 ≤ a ∧ a < 2000 + ej_stx.length
  · rw [if_pos hc] at h
    obtain rfl := Option.some.inj h
    obtain ⟨i, rfl⟩ : ∃ i, a = 2000 + i := ⟨a - 2000, by omega⟩
    rw [show 2000 + i + 1000 = 3000 + i by omega] at k
    exact z_getSV hd hw (by omega) k
  · rw [if_neg hc] at h; cases h
theorem z_ogetSC {idx a : Nat} {v : Int32} (hd : decode cc pc = .ok (.getfield idx, 3)) (hw : Cond.fieldLink own idx "java/lang/String" "coder" "B" ∈ ej_tbl) (h : oj_sc a = some v) (k : ej_Z cc nL rt own nm d (pc + 3) ls (.int v :: st) (ej_sh, m) res) : ej_Z cc nL rt own nm d pc ls (.ref a :: st) (ej_sh, m) res := by
  unfold oj_sc at h
  by_cases hc : 2000 ≤ a ∧ a < 2000 + ej_stx.length
  · rw [if_pos hc] at h
    obtain rfl := Option.some.inj h
    obtain ⟨i, rfl⟩ : ∃ i, a = 2000 + i := ⟨a - 2000, by omega⟩
    exact z_getSC hd hw (by omega) k
  · rw [if_neg hc] at h; cases h
theorem z_odiv {x y v : Int32} (hd : decode cc pc = .ok (.idiv, 1)) (h : oj_dv x y = some v) (k : ej_Z cc nL rt own nm d (pc + 1) ls (.int v :: st) (ej_sh, m) res) : ej_Z cc nL rt own nm d pc ls (.int y :: .int x :: st) (ej_sh, m) res := by
  unfold oj_dv at h
  by_cases hc : y = 0
  · rw [if_pos hc] at h; cases h
  · rw [if_neg hc] at h
    obtain rfl := Option.some.inj h
    exact z_idiv hd hc k
theorem z_orem {x y v : Int32} (hd : decode cc pc = .ok (.irem, 1)) (h : oj_rm x y = some v) (k : ej_Z cc nL rt own nm d (pc + 1) ls (.int v :: st) (ej_sh, m) res) : ej_Z cc nL rt own nm d pc ls (.int y :: .int x :: st) (ej_sh, m) res := by
  unfold oj_rm at h
  by_cases hc : y = 0
  · rw [if_pos hc] at h; cases h
  · rw [if_neg hc] at h
    obtain rfl := Option.some.inj h
    exact z_irem hd hc k
theorem z_oretz {v : Int32} {q : Int32 × ej_M} (hd : decode cc pc = .ok (.ireturn, 1)) (hr : rt = some .boolean) (h : oj_rz v m = some q) : ej_Z cc nL rt own nm d pc ls [.int v] (ej_sh, m) (some (.int q.1), (ej_sh, q.2)) := by
  unfold oj_rz at h
  by_cases hc : v = 0 ∨ v = 1
  · rw [if_pos hc] at h
    obtain rfl := Option.some.inj h
    rcases hc with rfl | rfl
    · exact z_iret hd hr rfl
    · exact z_iret hd hr rfl
  · rw [if_neg hc] at h; cases h
theorem z_oretn {v : Int32} {ty : FieldType} {q : Int32 × ej_M} (hd : decode cc pc = .ok (.ireturn, 1)) (hr : rt = some ty) (h : oj_rn ty v m = some q) : ej_Z cc nL rt own nm d pc ls [.int v] (ej_sh, m) (some (.int q.1), (ej_sh, q.2)) := by
  unfold oj_rn at h
  by_cases hc : narrow ty (.int v) = .int v
  · rw [if_pos hc] at h
    obtain rfl := Option.some.inj h
    exact z_iret hd hr hc
  · rw [if_neg hc] at h; cases h
/-- calls at the steady shape -/
theorem ej_RCS {m : ej_M} {a : Nat} {b : Nat} (h : oj_sv a = some b) : ej_RC (ej_sh, m) a "java/lang/String" := by
  unfold oj_sv at h
  by_cases hc : 2000 ≤ a ∧ a < 2000 + ej_stx.length
  · exact Or.inr ⟨a - 2000, by omega, by omega, rfl⟩
  · rw [if_neg hc] at h; cases h
theorem z_oSi {y : MethodName} {c2 : ByteArray} {n2 n idx : Nat} {r2 : Option FieldType} {as rest st0 : List Value} {v : Int32} {m1 : ej_M} (hd : decode cc pc = .ok (.invokestatic idx, 3)) (hL : ej_ML own idx y) (hM : ej_MF y c2 n2 r2 n) (hs : Cond.static y ∈ ej_tbl) (hn : as.length = n) (hst : st0 = as.reverse ++ rest) (h8 : (rest.map fun v => v.category).sum ≤ 8)
    (hc : ej_Ct y c2 n2 r2 d as (ej_sh, m) (some (.int v), (ej_sh, m1))) (k : ej_Z cc nL rt own nm (d + 1) (pc + 3) ls (.int v :: rest) (ej_sh, m1) res) : ej_Z cc nL rt own nm (d + 1) pc ls st0 (ej_sh, m) res :=
  z_callS hd hL hM hs hn hst h8 hc (Or.inl rfl) k
theorem z_oVi {y : MethodName} {C : String} {c2 : ByteArray} {n2 n idx b : Nat} {r2 : Option FieldType} {as rest st0 : List Value} {v : Int32} {m1 : ej_M} (hd : decode cc pc = .ok (.invokevirtual idx, 3)) (hL : ej_ML own idx y) (hM : ej_MF y c2 n2 r2 n) (hi : Cond.instanceMethod y ∈ ej_tbl) (hs : Cond.selects C y y ∈ ej_tbl) (hR : ej_RC (ej_sh, m) b C) (hn : as.length = n) (hst : st0 = as.reverse ++ .ref b :: rest) (h8 : (rest.map fun v => v.category).sum ≤ 8)
    (hc : ej_Ct y c2 n2 r2 d (.ref b :: as) (ej_sh, m) (some (.int v), (ej_sh, m1))) (k : ej_Z cc nL rt own nm (d + 1) (pc + 3) ls (.int v :: rest) (ej_sh, m1) res) : ej_Z cc nL rt own nm (d + 1) pc ls st0 (ej_sh, m) res :=
  z_callV hd hL hM hi hs hR hn hst h8 hc (Or.inl rfl) k
theorem z_oSl {y : MethodName} {c2 : ByteArray} {n2 n idx : Nat} {r2 : Option FieldType} {as rest st0 : List Value} {v : Int64} {m1 : ej_M} (hd : decode cc pc = .ok (.invokestatic idx, 3)) (hL : ej_ML own idx y) (hM : ej_MF y c2 n2 r2 n) (hs : Cond.static y ∈ ej_tbl) (hn : as.length = n) (hst : st0 = as.reverse ++ rest) (h8 : (rest.map fun v => v.category).sum ≤ 8)
    (hc : ej_Ct y c2 n2 r2 d as (ej_sh, m) (some (.long v), (ej_sh, m1))) (k : ej_Z cc nL rt own nm (d + 1) (pc + 3) ls (.long v :: rest) (ej_sh, m1) res) : ej_Z cc nL rt own nm (d + 1) pc ls st0 (ej_sh, m) res :=
  z_callS hd hL hM hs hn hst h8 hc (Or.inl rfl) k
theorem z_oVl {y : MethodName} {C : String} {c2 : ByteArray} {n2 n idx b : Nat} {r2 : Option FieldType} {as rest st0 : List Value} {v : Int64} {m1 : ej_M} (hd : decode cc pc = .ok (.invokevirtual idx, 3)) (hL : ej_ML own idx y) (hM : ej_MF y c2 n2 r2 n) (hi : Cond.instanceMethod y ∈ ej_tbl) (hs : Cond.selects C y y ∈ ej_tbl) (hR : ej_RC (ej_sh, m) b C) (hn : as.length = n) (hst : st0 = as.reverse ++ .ref b :: rest) (h8 : (rest.map fun v => v.category).sum ≤ 8)
    (hc : ej_Ct y c2 n2 r2 d (.ref b :: as) (ej_sh, m) (some (.long v), (ej_sh, m1))) (k : ej_Z cc nL rt own nm (d + 1) (pc + 3) ls (.long v :: rest) (ej_sh, m1) res) : ej_Z cc nL rt own nm (d + 1) pc ls st0 (ej_sh, m) res :=
  z_callV hd hL hM hi hs hR hn hst h8 hc (Or.inl rfl) k
theorem z_oSr {y : MethodName} {c2 : ByteArray} {n2 n idx : Nat} {r2 : Option FieldType} {as rest st0 : List Value} {v : Nat} {m1 : ej_M} (hd : decode cc pc = .ok (.invokestatic idx, 3)) (hL : ej_ML own idx y) (hM : ej_MF y c2 n2 r2 n) (hs : Cond.static y ∈ ej_tbl) (hn : as.length = n) (hst : st0 = as.reverse ++ rest) (h8 : (rest.map fun v => v.category).sum ≤ 8)
    (hc : ej_Ct y c2 n2 r2 d as (ej_sh, m) (some (.ref v), (ej_sh, m1))) (k : ej_Z cc nL rt own nm (d + 1) (pc + 3) ls (.ref v :: rest) (ej_sh, m1) res) : ej_Z cc nL rt own nm (d + 1) pc ls st0 (ej_sh, m) res :=
  z_callS hd hL hM hs hn hst h8 hc (Or.inl rfl) k
theorem z_oVr {y : MethodName} {C : String} {c2 : ByteArray} {n2 n idx b : Nat} {r2 : Option FieldType} {as rest st0 : List Value} {v : Nat} {m1 : ej_M} (hd : decode cc pc = .ok (.invokevirtual idx, 3)) (hL : ej_ML own idx y) (hM : ej_MF y c2 n2 r2 n) (hi : Cond.instanceMethod y ∈ ej_tbl) (hs : Cond.selects C y y ∈ ej_tbl) (hR : ej_RC (ej_sh, m) b C) (hn : as.length = n) (hst : st0 = as.reverse ++ .ref b :: rest) (h8 : (rest.map fun v => v.category).sum ≤ 8)
    (hc : ej_Ct y c2 n2 r2 d (.ref b :: as) (ej_sh, m) (some (.ref v), (ej_sh, m1))) (k : ej_Z cc nL rt own nm (d + 1) (pc + 3) ls (.ref v :: rest) (ej_sh, m1) res) : ej_Z cc nL rt own nm (d + 1) pc ls st0 (ej_sh, m) res :=
  z_callV hd hL hM hi hs hR hn hst h8 hc (Or.inl rfl) k
theorem z_oSv {y : MethodName} {c2 : ByteArray} {n2 n idx : Nat} {r2 : Option FieldType} {as rest st0 : List Value} {m1 : ej_M} (hd : decode cc pc = .ok (.invokestatic idx, 3)) (hL : ej_ML own idx y) (hM : ej_MF y c2 n2 r2 n) (hs : Cond.static y ∈ ej_tbl) (hn : as.length = n) (hst : st0 = as.reverse ++ rest) (h8 : (rest.map fun v => v.category).sum ≤ 8)
    (hc : ej_Ct y c2 n2 r2 d as (ej_sh, m) (none, (ej_sh, m1))) (k : ej_Z cc nL rt own nm (d + 1) (pc + 3) ls rest (ej_sh, m1) res) : ej_Z cc nL rt own nm (d + 1) pc ls st0 (ej_sh, m) res :=
  z_callS hd hL hM hs hn hst h8 hc (Or.inl rfl) k
theorem z_oVv {y : MethodName} {C : String} {c2 : ByteArray} {n2 n idx b : Nat} {r2 : Option FieldType} {as rest st0 : List Value} {m1 : ej_M} (hd : decode cc pc = .ok (.invokevirtual idx, 3)) (hL : ej_ML own idx y) (hM : ej_MF y c2 n2 r2 n) (hi : Cond.instanceMethod y ∈ ej_tbl) (hs : Cond.selects C y y ∈ ej_tbl) (hR : ej_RC (ej_sh, m) b C) (hn : as.length = n) (hst : st0 = as.reverse ++ .ref b :: rest) (h8 : (rest.map fun v => v.category).sum ≤ 8)
    (hc : ej_Ct y c2 n2 r2 d (.ref b :: as) (ej_sh, m) (none, (ej_sh, m1))) (k : ej_Z cc nL rt own nm (d + 1) (pc + 3) ls rest (ej_sh, m1) res) : ej_Z cc nL rt own nm (d + 1) pc ls st0 (ej_sh, m) res :=
  z_callV hd hL hM hi hs hR hn hst h8 hc (Or.inl rfl) k
end EJ
theorem rc_0 {m : ej_M} : ej_RC (ej_sh, m) 0 RX10 := Or.inl ⟨10, TX10, 10, _, sh_0, by decide, rfl⟩
theorem rc_1 {m : ej_M} : ej_RC (ej_sh, m) 1 RX2 := Or.inl ⟨2, TX2, 8, _, sh_1, by decide, rfl⟩
theorem rc_6 {m : ej_M} : ej_RC (ej_sh, m) 6 RX4 := Or.inl ⟨4, TX4, 16, _, sh_6, by decide, rfl⟩
theorem rc_11 {m : ej_M} : ej_RC (ej_sh, m) 11 RX1 := Or.inl ⟨1, TX1, 6, _, sh_11, by decide, rfl⟩
theorem rc_15 {m : ej_M} : ej_RC (ej_sh, m) 15 RX8 := Or.inl ⟨8, TX8, 4, _, sh_15, by decide, rfl⟩
theorem rc_18 {m : ej_M} : ej_RC (ej_sh, m) 18 RX3 := Or.inl ⟨3, TX3, 7, _, sh_18, by decide, rfl⟩
theorem rc_22 {m : ej_M} : ej_RC (ej_sh, m) 22 RX7 := Or.inl ⟨7, TX7, 3, _, sh_22, by decide, rfl⟩
theorem rc_25 {m : ej_M} : ej_RC (ej_sh, m) 25 RX5 := Or.inl ⟨5, TX5, 3, _, sh_25, by decide, rfl⟩
theorem rc_28 {m : ej_M} : ej_RC (ej_sh, m) 28 RX9 := Or.inl ⟨9, TX9, 7, _, sh_28, by decide, rfl⟩
theorem rc_34 {m : ej_M} : ej_RC (ej_sh, m) 34 RX0 := Or.inl ⟨0, TX0, 5, _, sh_34, by decide, rfl⟩
theorem rc_37 {m : ej_M} : ej_RC (ej_sh, m) 37 RX6 := Or.inl ⟨6, TX6, 3, _, sh_37, by decide, rfl⟩
theorem rc_41 {m : ej_M} : ej_RC (ej_sh, m) 41 RX11 := Or.inl ⟨11, TX11, 51, _, sh_41, by decide, rfl⟩
