/-! new cells; contracts; calls; ends -/
section EJ
variable {cc : ByteArray} {nL : Nat} {rt : Option FieldType} {own nm : String} {d pc : Nat} {ls : List (Nat × Value)} {st : List Value} {H : ej_H} {res : Option Value × ej_H}
theorem ej_ns_push {S : ej_S} {x : Nat × Nat × List (Option Nat)} : ej_ns (S ++ [x]) = ej_ns S + x.2.1 := by simp [ej_ns]
theorem ej_e_z {cy : Nat → ClassId} {ad : Nat → Nat} {M : ej_M} {a b : Nat} {y : Nat × Nat × List (Option Nat)} (hb : b ≠ a) : ej_e cy ad (ej_z M a) b y = ej_e cy ad M b y := by
  unfold ej_e ej_z
  simp only [if_neg hb]
theorem ej_ws_push {cy : Nat → ClassId} {ad : Nat → Nat} {q : Nat} {x : Nat × Nat × List (Option Nat)} (hS : ej_okS H.1.length H.1 = true) :
    ej_ws cy (fun b => if b = H.1.length then q else ad b) (H.1 ++ [x], ej_z H.2 H.1.length) = ej_ws cy ad H ++ [(q, ej_e cy (fun b => if b = H.1.length then q else ad b) (ej_z H.2 H.1.length) H.1.length x)] := by
  have h1 : ej_ws cy (fun b => if b = H.1.length then q else ad b) (H.1 ++ [x], ej_z H.2 H.1.length) = (ej_ws cy (fun b => if b = H.1.length then q else ad b) (H.1, ej_z H.2 H.1.length)) ++ [((fun b => if b = H.1.length then q else ad b) H.1.length, ej_e cy (fun b => if b = H.1.length then q else ad b) (ej_z H.2 H.1.length) H.1.length x)] := by
    unfold ej_ws
    rw [List.mapIdx_concat]
  rw [h1]
  have h2 : ej_ws cy (fun b => if b = H.1.length then q else ad b) (H.1, ej_z H.2 H.1.length) = ej_ws cy ad H := by
    apply List.ext_getElem?
    intro k
    rw [ej_ws_at, ej_ws_at]
    cases hx : H.1[k]? with
    | none => simp [hx]
    | some y =>
      have hk := ej_lt hx
      have hm := List.all_eq_true.mp hS y (List.mem_of_getElem? hx)
      simp only [hx, Option.map_some]
      rw [ej_e_z (by omega), if_neg (by omega), ej_e_ok (n := H.1.length) (ad := ad) (fun b hb => if_neg (by omega)) hm]
  rw [h2]
  simp only [if_true]
/-- a row that makes a cell -/
theorem z_alloc {pc' : Nat} {st' st0 : List Value} {x : Nat × Nat × List (Option Nat)} (hlt : H.1.length < 1000) (hS : ej_okS H.1.length H.1 = true) (hls : ls.all (fun q => ej_okv H.1.length q.2) = true) (hst : st'.all (ej_okv H.1.length) = true)
    (h : ∀ (p : Program) (l : Launch) (e : Env) (R : Room) (s : State) (m : MethodId) (args : Array Value) (below : List Frame) (meth : Method) (c : Code) (A : Nat → Prop) (D : va_G) (cy : Nat → ClassId) (ad : Nat → Nat) (Hc : Heap) (locs : List Loc) (cells slots : Nat) (lsc : Array Slot) (Q : State → Prop),
      ej_C cc nL rt own nm p s m args meth c A D cy → va_P D vwCl (ej_ws cy ad H) Hc → va_D A (ej_ws cy ad H) → va_S A s.heap Hc locs → cells + 1 ≤ R.cells → slots + x.2.1 ≤ R.slots →
      (∀ (q : Nat) (Hc1 : Heap) (locs1 : List Loc), va_P D vwCl (ej_ws cy ad H ++ [(q, ej_e cy (fun b => if b = H.1.length then q else ad b) (ej_z H.2 H.1.length) H.1.length x)]) Hc1 → va_D A (ej_ws cy ad H ++ [(q, ej_e cy (fun b => if b = H.1.length then q else ad b) (ej_z H.2 H.1.length) H.1.length x)]) → va_S A s.heap Hc1 locs1 → W p l e R s m args below meth c Hc1 locs1 (cells + 1) (slots + x.2.1) Q (F0 m pc' lsc (.ref q :: st'.map (ej_cv ad)))) → W p l e R s m args below meth c Hc locs cells slots Q (F0 m pc lsc (st0.map (ej_cv ad))))
    (k : ej_Z cc nL rt own nm d pc' ls (.ref H.1.length :: st') (H.1 ++ [x], ej_z H.2 H.1.length) res) : ej_Z cc nL rt own nm d pc ls st0 H res := by
  obtain ⟨⟨a1, a2, a3⟩, k2⟩ := k
  have hlen : (H.1 ++ [x]).length = H.1.length + 1 := by simp
  have hns := ej_ns_push (S := H.1) (x := x)
  have hI : ∀ a, 1000 ≤ a → (ej_z H.2 H.1.length).1 a = H.2.1 a := fun a ha => if_neg (by omega)
  dsimp only at a1 a2 a3
  rw [hlen] at a1 a3
  rw [hns] at a2
  refine ⟨⟨by omega, by omega, fun hz => ⟨(a3 (by omega)).1, fun a ha => ((a3 (by omega)).2 a ha).trans (hI a ha)⟩⟩, fun p l e R s m args below meth c A D cy ad Hc locs cells slots cells' slots' lsc Q hC hT hz h1 h2 h3 h4 h5 h6 hl hP hD hSS hend => ?_⟩
  refine h p l e R s m args below meth c A D cy ad Hc locs cells slots lsc Q hC hP hD hSS (by omega) (by omega) fun q Hc1 locs1 hP1 hD1 hS1 => ?_
  have had : ∀ b, b < H.1.length ∨ 1000 ≤ b → (fun b => if b = H.1.length then q else ad b) b = ad b := fun b hb => if_neg (by omega)
  have hw := ej_ws_push (cy := cy) (ad := ad) (q := q) (x := x) hS
  rw [← hw] at hP1 hD1
  have e1 : (Value.ref H.1.length :: st').map (ej_cv (fun b => if b = H.1.length then q else ad b)) = .ref q :: st'.map (ej_cv ad) := by
    rw [List.map_cons, ej_cvs_ok had hst]
    simp [ej_cv]
  have e2 : ej_lm (fun b => if b = H.1.length then q else ad b) ls = ej_lm ad ls := ej_ls_ok had hls
  rw [← e1]
  refine k2 p l e R s m args below meth c A D cy _ Hc1 locs1 (cells + 1) (slots + x.2.1) cells' slots' lsc Q hC ?_ (by dsimp only; omega) h1 h2 (by dsimp only; omega) (by dsimp only; omega) h5 h6 (by rw [e2]; exact hl) hP1 hD1 hS1 fun ad' Hc' locs' lsc' pc' ha => hend ad' Hc' locs' lsc' pc' fun k hk => ?_
  · exact (hT.congr (I' := (ej_z H.2 H.1.length).1) hI).ads fun a ha => had a (Or.inr ha)
  · dsimp only at ha
    rw [hlen] at ha
    rw [ha k (by omega)]
    exact if_neg (by omega)
def ej_NL (own : String) (idx c N : Nat) : Prop := ∃ C T, ej_CL c N C T ∧ Cond.classLink own idx C ∈ ej_tbl ∧ Cond.instantiable C N ∈ ej_tbl ∧ Cond.initialized C ∈ ej_tbl ∧ ∀ j, j < N → ej_isR (ej_ty c j) = true ∧ defaultValue (ej_ty c j) = .null ∨ ej_isR (ej_ty c j) = false ∧ defaultValue (ej_ty c j) = .int 0
theorem ej_fs_none {ad ad' : Nat → Nat} {c N : Nat} {I : Nat → Int32} : ej_fs ad c N I (List.replicate N none) = ej_fs ad' c N I (List.replicate N none) := by
  unfold ej_fs
  refine List.map_congr_left fun j hj => ?_
  have hj' : j < N := List.mem_range.mp hj
  simp [ej_fv, List.getD_eq_getElem?_getD, List.getElem?_replicate, hj']
theorem z_new {idx c N : Nat} (hd : decode cc pc = .ok (.new idx, 3)) (hL : ej_NL own idx c N) (hlt : H.1.length < 1000) (hS : ej_okS H.1.length H.1 = true) (hls : ls.all (fun q => ej_okv H.1.length q.2) = true) (hst : st.all (ej_okv H.1.length) = true)
    (k : ej_Z cc nL rt own nm d (pc + 3) ls (.ref H.1.length :: st) (H.1 ++ [(c, N, List.replicate N none)], ej_z H.2 H.1.length) res) : ej_Z cc nL rt own nm d pc ls st H res := by
  refine z_alloc (x := (c, N, List.replicate N none)) hlt hS hls hst (fun p l e R s m args below meth c0 A D cy ad Hc locs cells slots lsc Q hC hP hD hSS hc1 hs1 kk => ?_) k
  obtain ⟨hx, hb, hml, hr, hown, hts, hlk, hK, hA, hi9⟩ := hC
  obtain ⟨C, T, ⟨hc, h50, hw, hpt, hnm⟩, h1, h2, h3, h4⟩ := hL
  refine va_new (ci := c) (fs := ej_fs ad c N (fun _ => 0) (List.replicate N none)) hx hb hts hw (ej_ty c) hpt hown (hts _ h1) (hts _ h2) (hts _ h3) hK hP hD hSS hA hc (fun j hj => ?_) hc1 hs1 hd fun q H1 hP1 hD1 hS1 => ?_
  · unfold vp_V
    rw [List.getD_eq_getElem?_getD, ej_fs_at hj]
    rcases h4 j hj with ⟨g1, g2⟩ | ⟨g1, g2⟩
    · simp [g2, ej_fv, g1, List.getD_eq_getElem?_getD, List.getElem?_replicate, hj, va_rf]
    · simp [g2, ej_fv, g1]
  · have he : (Sum.inr (c, ej_fs ad c N (fun _ => 0) (List.replicate N none)) : va_E) = ej_e cy (fun b => if b = H.1.length then q else ad b) (ej_z H.2 H.1.length) H.1.length (c, N, List.replicate N none) := by
      unfold ej_e
      simp only [if_pos h50]
      simp [ej_z]
      exact ej_fs_none
    rw [he] at hP1 hD1
    exact kk q H1 locs hP1 hD1 hS1
theorem ej_cA {s : State} {D : va_G} {cy : Nat → ClassId} {cA : ClassId} {t : Nat} (ht : t < 4) (hK : va_K D vwCl (ej_tys cy) s) (hK1 : va_K D vwCl (ej_tys cy ++ [(cA, ej_at t)]) s) : cA = cy t := by
  have h1 := (hK1.2 4 (cA, ej_at t) rfl).2
  have h4 : t = 0 ∨ t = 1 ∨ t = 2 ∨ t = 3 := by omega
  rcases h4 with rfl | rfl | rfl | rfl
  · have h2 := (hK.2 0 (cy 0, .int) rfl).2
    exact Option.some.inj (h1.symm.trans h2)
  · have h2 := (hK.2 1 (cy 1, .byte) rfl).2
    exact Option.some.inj (h1.symm.trans h2)
  · have h2 := (hK.2 2 (cy 2, .short) rfl).2
    exact Option.some.inj (h1.symm.trans h2)
  · have h2 := (hK.2 3 (cy 3, .long) rfl).2
    exact Option.some.inj (h1.symm.trans h2)
theorem z_newa {atype : ArrayType} {t N : Nat} {n : Int32} (hd : decode cc pc = .ok (.newarray atype, 2)) (hat : newarray.typeOf atype = ej_at t) (ht : t < 4) (hw : Cond.arrayClass (ej_at t) ∈ ej_tbl) (hn : ¬ n < 0) (hN : n.toNatClampNeg = N) (hb8 : N * componentBytes (ej_at t) ≤ 536870912) (hlt : H.1.length < 1000) (hS : ej_okS H.1.length H.1 = true) (hls : ls.all (fun q => ej_okv H.1.length q.2) = true) (hst : st.all (ej_okv H.1.length) = true)
    (k : ej_Z cc nL rt own nm d (pc + 2) ls (.ref H.1.length :: st) (H.1 ++ [(50 + t, N, [])], ej_z H.2 H.1.length) res) : ej_Z cc nL rt own nm d pc ls (.int n :: st) H res := by
  refine z_alloc (x := (50 + t, N, [])) (st0 := .int n :: st) hlt hS hls hst (fun p l e R s m args below meth c0 A D cy ad Hc locs cells slots lsc Q hC hP hD hSS hc1 hs1 kk => ?_) k
  obtain ⟨hx, hb, hml, hr, hown, hts, hlk, hK, hA, hi9⟩ := hC
  by_cases h3 : t = 3
  · subst h3
    refine va_newa (ty := ej_at 3) (N' := N) (a0 := (N, .inr (.inl fun _ => 0))) hx hb (by rw [hat]; exact hts _ hw) hat hK hP hD hSS hA (fun cA => rfl) hn hN hb8 hc1 hs1 hd fun q cA H1 hK1 hP1 hD1 hS1 => ?_
    have := ej_cA ht hK hK1
    subst this
    have he : (Sum.inl (cy 3, N, .inr (.inl fun _ => 0)) : va_E) = ej_e cy (fun b => if b = H.1.length then q else ad b) (ej_z H.2 H.1.length) H.1.length (50 + 3, N, []) := by
      simp [ej_e, ej_z]
    rw [he] at hP1 hD1
    exact kk q H1 locs hP1 hD1 hS1
  · have hdv : defaultValue (ej_at t) = .int 0 := by
      have h4 : t = 0 ∨ t = 1 ∨ t = 2 := by omega
      rcases h4 with rfl | rfl | rfl <;> rfl
    refine va_newa (ty := ej_at t) (N' := N) (a0 := (N, .inl fun _ => 0)) hx hb (by rw [hat]; exact hts _ hw) hat hK hP hD hSS hA (fun cA => by rw [hdv]; rfl) hn hN hb8 hc1 hs1 hd fun q cA H1 hK1 hP1 hD1 hS1 => ?_
    have := ej_cA ht hK hK1
    subst this
    have he : (Sum.inl (cy t, N, .inl fun _ => 0) : va_E) = ej_e cy (fun b => if b = H.1.length then q else ad b) (ej_z H.2 H.1.length) H.1.length (50 + t, N, []) := by
      unfold ej_e
      simp only [if_neg (show ¬ 50 + t < 50 by omega), if_neg (show ¬ 50 + t = 53 by omega)]
      rw [show 50 + t - 50 = t by omega]
      simp [ej_z]
    rw [he] at hP1 hD1
    exact kk q H1 locs hP1 hD1 hS1
end EJ
