/-! THE JUDGEMENT: from this place of the method, with these locals, this stack and this state, the method comes to its end with this answer and that state -/
def ej_C (cc : ByteArray) (nL : Nat) (rt : Option FieldType) (own nm : String) (p : Program) (s : State) (m : MethodId) (args : Array Value) (meth : Method) (c : Code) (A : Nat → Prop) (D : va_G) (cy : Nat → ClassId) : Prop :=
  p.tables.exec = Jvm.exec ∧ c.code = cc ∧ c.maxLocals = nL ∧ meth.sig.returnType = rt ∧ s.vm.findClass own = some m.cls ∧ (∀ w ∈ ej_tbl, w.before args s = true) ∧ meth.locks = false ∧ va_K D vwCl (ej_tys cy) s ∧ (∀ q, s.heap.size ≤ q → A q) ∧ (nm = "<init>" → meth.name = "<init>")
/-- an end at pc with this answer -/
def ej_rt (cc : ByteArray) (rt : Option FieldType) (pc : Nat) (r : Option Value) : Prop := match r with
  | none => decode cc pc = .ok (.return_, 1) ∧ rt = none
  | some (.int v) => decode cc pc = .ok (.ireturn, 1) ∧ ∃ ty, rt = some ty ∧ narrow ty (.int v) = .int v
  | some (.long _) => decode cc pc = .ok (.lreturn, 1) ∧ rt = some .long
  | some (.ref _) => decode cc pc = .ok (.areturn, 1) ∧ ∃ n, rt = some (.object n)
  | _ => False
def ej_lm (ad : Nat → Nat) (ls : List (Nat × Value)) : List (Nat × Value) := ls.map fun q => (q.1, ej_cv ad q.2)
def ej_Z (cc : ByteArray) (nL : Nat) (rt : Option FieldType) (own nm : String) (d pc : Nat) (ls : List (Nat × Value)) (st : List Value) (H : ej_H) (res : Option Value × ej_H) : Prop :=
  ej_PR H res.2 ∧ ∀ (p : Program) (l : Launch) (e : Env) (R : Room) (s : State) (m : MethodId) (args : Array Value) (below : List Frame) (meth : Method) (c : Code) (A : Nat → Prop) (D : va_G) (cy : Nat → ClassId) (ad : Nat → Nat) (Hc : Heap) (locs : List Loc) (cells slots cells' slots' : Nat) (lsc : Array Slot) (Q : State → Prop),
    ej_C cc nL rt own nm p s m args meth c A D cy → ej_ST H.2.1 ad A s s.heap → H.1.length ≤ 1000 → d ≤ R.frames → 40 * d ≤ R.locals →
    cells + res.2.1.length = cells' + H.1.length → slots + ej_ns res.2.1 = slots' + ej_ns H.1 → cells' ≤ R.cells → slots' ≤ R.slots →
    lv_has lsc nL (ej_lm ad ls) → va_P D vwCl (ej_ws cy ad H) Hc → va_D A (ej_ws cy ad H) → va_S A s.heap Hc locs →
    (∀ (ad' : Nat → Nat) (Hc' : Heap) (locs' : List Loc) (lsc' : Array Slot) (pc' : Nat), (∀ k, k < H.1.length ∨ res.2.1.length ≤ k → ad' k = ad k) → va_P D vwCl (ej_ws cy ad' res.2) Hc' → va_D A (ej_ws cy ad' res.2) → va_S A s.heap Hc' locs' → ej_rt cc rt pc' res.1 →
      W p l e R s m args below meth c Hc' locs' cells' slots' Q (F0 m pc' lsc' (res.1.toList.map (ej_cv ad')))) →
    W p l e R s m args below meth c Hc locs cells slots Q (F0 m pc lsc (st.map (ej_cv ad)))
section EJ
variable {cc : ByteArray} {nL : Nat} {rt : Option FieldType} {own nm : String} {d pc : Nat} {ls : List (Nat × Value)} {st : List Value} {H : ej_H} {res : Option Value × ej_H}
/-- a row that leaves the state as it is -/
theorem z_lift {pc' : Nat} {ls' : List (Nat × Value)} {st' st0 : List Value}
    (h : ∀ (p : Program) (l : Launch) (e : Env) (R : Room) (s : State) (m : MethodId) (args : Array Value) (below : List Frame) (meth : Method) (c : Code) (A : Nat → Prop) (D : va_G) (cy : Nat → ClassId) (ad : Nat → Nat) (Hc : Heap) (locs : List Loc) (cells slots : Nat) (lsc : Array Slot) (Q : State → Prop),
      ej_C cc nL rt own nm p s m args meth c A D cy → ej_ST H.2.1 ad A s s.heap → lv_has lsc nL (ej_lm ad ls) → va_P D vwCl (ej_ws cy ad H) Hc → va_S A s.heap Hc locs →
      (∀ lsc' : Array Slot, lv_has lsc' nL (ej_lm ad ls') → W p l e R s m args below meth c Hc locs cells slots Q (F0 m pc' lsc' (st'.map (ej_cv ad)))) → W p l e R s m args below meth c Hc locs cells slots Q (F0 m pc lsc (st0.map (ej_cv ad))))
    (k : ej_Z cc nL rt own nm d pc' ls' st' H res) : ej_Z cc nL rt own nm d pc ls st0 H res :=
  ⟨k.1, fun p l e R s m args below meth c A D cy ad Hc locs cells slots cells' slots' lsc Q hC hT hz h1 h2 h3 h4 h5 h6 hl hP hD hS hend =>
    h p l e R s m args below meth c A D cy ad Hc locs cells slots lsc Q hC hT hl hP hS fun lsc' hl' => k.2 p l e R s m args below meth c A D cy ad Hc locs cells slots cells' slots' lsc' Q hC hT hz h1 h2 h3 h4 h5 h6 hl' hP hD hS hend⟩
theorem ej_lm_at {ad : Nat → Nat} {j i : Nat} {v : Value} (h : ls[j]? = some (i, v)) : (ej_lm ad ls)[j]? = some (i, ej_cv ad v) := by
  unfold ej_lm
  rw [List.getElem?_map, h]; rfl
theorem ej_lm_f1 {ad : Nat → Nat} {i : Nat} {v : Value} {ls' : List (Nat × Value)} (h : (i, v) :: ls.filter (fun q => !(q.1 == i) && !(q.1 + 1 == i && q.2.category == 2)) = ls') :
    (i, ej_cv ad v) :: (ej_lm ad ls).filter (fun q => !(q.1 == i) && !(q.1 + 1 == i && q.2.category == 2)) = ej_lm ad ls' := by
  subst h
  unfold ej_lm
  rw [List.map_cons, List.filter_map]
  congr 2
  refine List.filter_congr fun q _ => ?_
  simp only [Function.comp, ej_cv_cat]
theorem ej_lm_f2 {ad : Nat → Nat} {i : Nat} {v : Value} {ls' : List (Nat × Value)} (h : (i, v) :: ls.filter (fun q => !(q.1 == i) && (!(q.1 == i + 1) && !(q.1 + 1 == i && q.2.category == 2))) = ls') :
    (i, ej_cv ad v) :: (ej_lm ad ls).filter (fun q => !(q.1 == i) && (!(q.1 == i + 1) && !(q.1 + 1 == i && q.2.category == 2))) = ej_lm ad ls' := by
  subst h
  unfold ej_lm
  rw [List.map_cons, List.filter_map]
  congr 2
  refine List.filter_congr fun q _ => ?_
  simp only [Function.comp, ej_cv_cat]
theorem z_iconst {n : Int} {v : Int32} (hd : decode cc pc = .ok (.iconst n, 1)) (hv : Int32.ofInt n = v) (k : ej_Z cc nL rt own nm d (pc + 1) ls (.int v :: st) H res) : ej_Z cc nL rt own nm d pc ls st H res :=
  z_lift (fun _ _ _ _ _ _ _ _ _ _ _ _ _ _ _ _ _ _ _ _ hC _ hl _ _ kk => lv_iconst hC.1 hC.2.1 hd hv (kk _ hl)) k
theorem z_bipush {n : Int} {v : Int32} (hd : decode cc pc = .ok (.bipush n, 2)) (hv : (Int8.ofInt n).toInt32 = v) (k : ej_Z cc nL rt own nm d (pc + 2) ls (.int v :: st) H res) : ej_Z cc nL rt own nm d pc ls st H res :=
  z_lift (fun _ _ _ _ _ _ _ _ _ _ _ _ _ _ _ _ _ _ _ _ hC _ hl _ _ kk => lv_bipush hC.1 hC.2.1 hd hv (kk _ hl)) k
theorem z_sipush {n : Int} {v : Int32} (hd : decode cc pc = .ok (.sipush n, 3)) (hv : (Int16.ofInt n).toInt32 = v) (k : ej_Z cc nL rt own nm d (pc + 3) ls (.int v :: st) H res) : ej_Z cc nL rt own nm d pc ls st H res :=
  z_lift (fun _ _ _ _ _ _ _ _ _ _ _ _ _ _ _ _ _ _ _ _ hC _ hl _ _ kk => lv_sipush hC.1 hC.2.1 hd hv (kk _ hl)) k
theorem z_lconst {n : Fin 2} {v : Int64} (hd : decode cc pc = .ok (.lconst n, 1)) (hv : Int64.ofNat (n : Nat) = v) (k : ej_Z cc nL rt own nm d (pc + 1) ls (.long v :: st) H res) : ej_Z cc nL rt own nm d pc ls st H res :=
  z_lift (fun _ _ _ _ _ _ _ _ _ _ _ _ _ _ _ _ _ _ _ _ hC _ hl _ _ kk => lv_lconst hC.1 hC.2.1 hd hv (kk _ hl)) k
theorem z_ldc {index : Nat} {v : Int32} (hd : decode cc pc = .ok (.ldc index, 2)) (hw : Jvm.Cond.constant own index v ∈ ej_tbl) (k : ej_Z cc nL rt own nm d (pc + 2) ls (.int v :: st) H res) : ej_Z cc nL rt own nm d pc ls st H res :=
  z_lift (fun _ _ _ _ _ _ _ _ _ _ _ _ _ _ _ _ _ _ _ _ hC _ hl _ _ kk => lv_ldc hC.1 hC.2.1 hC.2.2.2.2.1 (hC.2.2.2.2.2.1 _ hw) hd (kk _ hl)) k
theorem z_ldcw {index : Nat} {v : Int32} (hd : decode cc pc = .ok (.ldc_w index, 3)) (hw : Jvm.Cond.constant own index v ∈ ej_tbl) (k : ej_Z cc nL rt own nm d (pc + 3) ls (.int v :: st) H res) : ej_Z cc nL rt own nm d pc ls st H res :=
  z_lift (fun _ _ _ _ _ _ _ _ _ _ _ _ _ _ _ _ _ _ _ _ hC _ hl _ _ kk => lv_ldcw hC.1 hC.2.1 hC.2.2.2.2.1 (hC.2.2.2.2.2.1 _ hw) hd (kk _ hl)) k
theorem z_ldc2 {index : Nat} {v : Int64} (hd : decode cc pc = .ok (.ldc2_w index, 3)) (hw : Jvm.Cond.constantLong own index v ∈ ej_tbl) (k : ej_Z cc nL rt own nm d (pc + 3) ls (.long v :: st) H res) : ej_Z cc nL rt own nm d pc ls st H res :=
  z_lift (fun _ _ _ _ _ _ _ _ _ _ _ _ _ _ _ _ _ _ _ _ hC _ hl _ _ kk => lv_ldc2 hC.1 hC.2.1 hC.2.2.2.2.1 (hC.2.2.2.2.2.1 _ hw) hd (kk _ hl)) k
theorem z_ldcS {index i : Nat} {tx : String} (hd : decode cc pc = .ok (.ldc index, 2)) (hw : (own, index, tx, i) ∈ ej_sts) (k : ej_Z cc nL rt own nm d (pc + 2) ls (.ref (2000 + i) :: st) H res) : ej_Z cc nL rt own nm d pc ls st H res :=
  z_lift (fun _ _ _ _ _ _ _ _ _ _ _ _ _ _ _ _ _ _ _ _ hC hT hl _ _ kk => va_ldcS hC.1 hC.2.1 hC.2.2.2.2.1 (hT.2.2.2.2.2.1 _ hw) hd (kk _ hl)) k
theorem z_iload_n {kn : Fin 4} {i j : Nat} {x : Int32} (hd : decode cc pc = .ok (.iload_n kn, 1)) (hi : (kn : Nat) = i) (hj : ls[j]? = some (i, .int x)) (k : ej_Z cc nL rt own nm d (pc + 1) ls (.int x :: st) H res) : ej_Z cc nL rt own nm d pc ls st H res :=
  z_lift (fun _ _ _ _ _ _ _ _ _ _ _ _ _ _ _ _ _ _ _ _ hC _ hl _ _ kk => lv_iload_n hC.1 hC.2.1 hd hi (lv_at hl j (ej_lm_at hj)) (kk _ hl)) k
theorem z_iload {i j : Nat} {x : Int32} (hd : decode cc pc = .ok (.iload i, 2)) (hj : ls[j]? = some (i, .int x)) (k : ej_Z cc nL rt own nm d (pc + 2) ls (.int x :: st) H res) : ej_Z cc nL rt own nm d pc ls st H res :=
  z_lift (fun _ _ _ _ _ _ _ _ _ _ _ _ _ _ _ _ _ _ _ _ hC _ hl _ _ kk => lv_iload hC.1 hC.2.1 hd (lv_at hl j (ej_lm_at hj)) (kk _ hl)) k
theorem z_lload_n {kn : Fin 4} {i j : Nat} {x : Int64} (hd : decode cc pc = .ok (.lload_n kn, 1)) (hi : (kn : Nat) = i) (hj : ls[j]? = some (i, .long x)) (k : ej_Z cc nL rt own nm d (pc + 1) ls (.long x :: st) H res) : ej_Z cc nL rt own nm d pc ls st H res :=
  z_lift (fun _ _ _ _ _ _ _ _ _ _ _ _ _ _ _ _ _ _ _ _ hC _ hl _ _ kk => lv_lload_n hC.1 hC.2.1 hd hi (lv_at hl j (ej_lm_at hj)) (kk _ hl)) k
theorem z_lload {i j : Nat} {x : Int64} (hd : decode cc pc = .ok (.lload i, 2)) (hj : ls[j]? = some (i, .long x)) (k : ej_Z cc nL rt own nm d (pc + 2) ls (.long x :: st) H res) : ej_Z cc nL rt own nm d pc ls st H res :=
  z_lift (fun _ _ _ _ _ _ _ _ _ _ _ _ _ _ _ _ _ _ _ _ hC _ hl _ _ kk => lv_lload hC.1 hC.2.1 hd (lv_at hl j (ej_lm_at hj)) (kk _ hl)) k
theorem z_aload_n {kn : Fin 4} {i j : Nat} {x : Nat} (hd : decode cc pc = .ok (.aload_n kn, 1)) (hi : (kn : Nat) = i) (hj : ls[j]? = some (i, .ref x)) (k : ej_Z cc nL rt own nm d (pc + 1) ls (.ref x :: st) H res) : ej_Z cc nL rt own nm d pc ls st H res :=
  z_lift (fun _ _ _ _ _ _ _ _ _ _ _ _ _ _ _ _ _ _ _ _ hC _ hl _ _ kk => lv_aload_n hC.1 hC.2.1 hd hi (lv_at hl j (ej_lm_at hj)) (kk _ hl)) k
theorem z_aload {i j : Nat} {x : Nat} (hd : decode cc pc = .ok (.aload i, 2)) (hj : ls[j]? = some (i, .ref x)) (k : ej_Z cc nL rt own nm d (pc + 2) ls (.ref x :: st) H res) : ej_Z cc nL rt own nm d pc ls st H res :=
  z_lift (fun _ _ _ _ _ _ _ _ _ _ _ _ _ _ _ _ _ _ _ _ hC _ hl _ _ kk => lv_aload hC.1 hC.2.1 hd (lv_at hl j (ej_lm_at hj)) (kk _ hl)) k
theorem z_istore_n {kn : Fin 4} {i : Nat} {x : Int32} {ls' : List (Nat × Value)} (hd : decode cc pc = .ok (.istore_n kn, 1)) (hi : (kn : Nat) = i) (hn : i < nL) (hl' : (i, Value.int x) :: ls.filter (fun q => !(q.1 == i) && !(q.1 + 1 == i && q.2.category == 2)) = ls') (k : ej_Z cc nL rt own nm d (pc + 1) ls' st H res) : ej_Z cc nL rt own nm d pc ls (.int x :: st) H res :=
  z_lift (fun _ _ _ _ _ _ _ _ _ _ _ _ _ _ _ _ _ _ _ _ hC _ hl _ _ kk => lv_istore_n hC.1 hC.2.1 hd hi hl hn (ej_lm_f1 hl') kk) k
theorem z_istore {i : Nat} {x : Int32} {ls' : List (Nat × Value)} (hd : decode cc pc = .ok (.istore i, 2)) (hn : i < nL) (hl' : (i, Value.int x) :: ls.filter (fun q => !(q.1 == i) && !(q.1 + 1 == i && q.2.category == 2)) = ls') (k : ej_Z cc nL rt own nm d (pc + 2) ls' st H res) : ej_Z cc nL rt own nm d pc ls (.int x :: st) H res :=
  z_lift (fun _ _ _ _ _ _ _ _ _ _ _ _ _ _ _ _ _ _ _ _ hC _ hl _ _ kk => lv_istore hC.1 hC.2.1 hd hl hn (ej_lm_f1 hl') kk) k
theorem z_astore_n {kn : Fin 4} {i : Nat} {x : Nat} {ls' : List (Nat × Value)} (hd : decode cc pc = .ok (.astore_n kn, 1)) (hi : (kn : Nat) = i) (hn : i < nL) (hl' : (i, Value.ref x) :: ls.filter (fun q => !(q.1 == i) && !(q.1 + 1 == i && q.2.category == 2)) = ls') (k : ej_Z cc nL rt own nm d (pc + 1) ls' st H res) : ej_Z cc nL rt own nm d pc ls (.ref x :: st) H res :=
  z_lift (fun _ _ _ _ _ _ _ _ _ _ _ _ _ ad _ _ _ _ _ _ hC _ hl _ _ kk => lv_astore_n hC.1 hC.2.1 hd hi hl hn (ej_lm_f1 (ad := ad) hl') kk) k
theorem z_lstore_n {kn : Fin 4} {i : Nat} {x : Int64} {ls' : List (Nat × Value)} (hd : decode cc pc = .ok (.lstore_n kn, 1)) (hi : (kn : Nat) = i) (hn : i + 1 < nL) (hl' : (i, Value.long x) :: ls.filter (fun q => !(q.1 == i) && (!(q.1 == i + 1) && !(q.1 + 1 == i && q.2.category == 2))) = ls') (k : ej_Z cc nL rt own nm d (pc + 1) ls' st H res) : ej_Z cc nL rt own nm d pc ls (.long x :: st) H res :=
  z_lift (fun _ _ _ _ _ _ _ _ _ _ _ _ _ _ _ _ _ _ _ _ hC _ hl _ _ kk => lv_lstore_n hC.1 hC.2.1 hd hi hl hn (ej_lm_f2 hl') kk) k
theorem z_lstore {i : Nat} {x : Int64} {ls' : List (Nat × Value)} (hd : decode cc pc = .ok (.lstore i, 2)) (hn : i + 1 < nL) (hl' : (i, Value.long x) :: ls.filter (fun q => !(q.1 == i) && (!(q.1 == i + 1) && !(q.1 + 1 == i && q.2.category == 2))) = ls') (k : ej_Z cc nL rt own nm d (pc + 2) ls' st H res) : ej_Z cc nL rt own nm d pc ls (.long x :: st) H res :=
  z_lift (fun _ _ _ _ _ _ _ _ _ _ _ _ _ _ _ _ _ _ _ _ hC _ hl _ _ kk => lv_lstore hC.1 hC.2.1 hd hl hn (ej_lm_f2 hl') kk) k
theorem z_iinc {i j : Nat} {n : Int} {x v : Int32} {ls' : List (Nat × Value)} (hd : decode cc pc = .ok (.iinc i n, 3)) (hj : ls[j]? = some (i, .int x)) (hv : Int32.ofInt n = v) (hn : i < nL) (hl' : (i, Value.int (x + v)) :: ls.filter (fun q => !(q.1 == i) && !(q.1 + 1 == i && q.2.category == 2)) = ls') (k : ej_Z cc nL rt own nm d (pc + 3) ls' st H res) : ej_Z cc nL rt own nm d pc ls st H res :=
  z_lift (fun _ _ _ _ _ _ _ _ _ _ _ _ _ _ _ _ _ _ _ _ hC _ hl _ _ kk => lv_iinc hC.1 hC.2.1 hd hl (ej_lm_at hj) (by rw [hv]) hn (ej_lm_f1 hl') kk) k
theorem z_iadd {x y : Int32} (hd : decode cc pc = .ok (.iadd, 1)) (k : ej_Z cc nL rt own nm d (pc + 1) ls (.int (x + y) :: st) H res) : ej_Z cc nL rt own nm d pc ls (.int y :: .int x :: st) H res :=
  z_lift (fun _ _ _ _ _ _ _ _ _ _ _ _ _ _ _ _ _ _ _ _ hC _ hl _ _ kk => lv_iadd hC.1 hC.2.1 hd (kk _ hl)) k
theorem z_isub {x y : Int32} (hd : decode cc pc = .ok (.isub, 1)) (k : ej_Z cc nL rt own nm d (pc + 1) ls (.int (x - y) :: st) H res) : ej_Z cc nL rt own nm d pc ls (.int y :: .int x :: st) H res :=
  z_lift (fun _ _ _ _ _ _ _ _ _ _ _ _ _ _ _ _ _ _ _ _ hC _ hl _ _ kk => lv_isub hC.1 hC.2.1 hd (kk _ hl)) k
theorem z_imul {x y : Int32} (hd : decode cc pc = .ok (.imul, 1)) (k : ej_Z cc nL rt own nm d (pc + 1) ls (.int (x * y) :: st) H res) : ej_Z cc nL rt own nm d pc ls (.int y :: .int x :: st) H res :=
  z_lift (fun _ _ _ _ _ _ _ _ _ _ _ _ _ _ _ _ _ _ _ _ hC _ hl _ _ kk => lv_imul hC.1 hC.2.1 hd (kk _ hl)) k
theorem z_iand {x y : Int32} (hd : decode cc pc = .ok (.iand, 1)) (k : ej_Z cc nL rt own nm d (pc + 1) ls (.int (x &&& y) :: st) H res) : ej_Z cc nL rt own nm d pc ls (.int y :: .int x :: st) H res :=
  z_lift (fun _ _ _ _ _ _ _ _ _ _ _ _ _ _ _ _ _ _ _ _ hC _ hl _ _ kk => lv_iand hC.1 hC.2.1 hd (kk _ hl)) k
theorem z_ior {x y : Int32} (hd : decode cc pc = .ok (.ior, 1)) (k : ej_Z cc nL rt own nm d (pc + 1) ls (.int (x ||| y) :: st) H res) : ej_Z cc nL rt own nm d pc ls (.int y :: .int x :: st) H res :=
  z_lift (fun _ _ _ _ _ _ _ _ _ _ _ _ _ _ _ _ _ _ _ _ hC _ hl _ _ kk => lv_ior hC.1 hC.2.1 hd (kk _ hl)) k
theorem z_ixor {x y : Int32} (hd : decode cc pc = .ok (.ixor, 1)) (k : ej_Z cc nL rt own nm d (pc + 1) ls (.int (x ^^^ y) :: st) H res) : ej_Z cc nL rt own nm d pc ls (.int y :: .int x :: st) H res :=
  z_lift (fun _ _ _ _ _ _ _ _ _ _ _ _ _ _ _ _ _ _ _ _ hC _ hl _ _ kk => lv_ixor hC.1 hC.2.1 hd (kk _ hl)) k
theorem z_ishl {x y : Int32} (hd : decode cc pc = .ok (.ishl, 1)) (k : ej_Z cc nL rt own nm d (pc + 1) ls (.int (x <<< (y &&& 31)) :: st) H res) : ej_Z cc nL rt own nm d pc ls (.int y :: .int x :: st) H res :=
  z_lift (fun _ _ _ _ _ _ _ _ _ _ _ _ _ _ _ _ _ _ _ _ hC _ hl _ _ kk => lv_ishl hC.1 hC.2.1 hd (kk _ hl)) k
theorem z_ishr {x y : Int32} (hd : decode cc pc = .ok (.ishr, 1)) (k : ej_Z cc nL rt own nm d (pc + 1) ls (.int (x >>> (y &&& 31)) :: st) H res) : ej_Z cc nL rt own nm d pc ls (.int y :: .int x :: st) H res :=
  z_lift (fun _ _ _ _ _ _ _ _ _ _ _ _ _ _ _ _ _ _ _ _ hC _ hl _ _ kk => lv_ishr hC.1 hC.2.1 hd (kk _ hl)) k
theorem z_idiv {x y : Int32} (hd : decode cc pc = .ok (.idiv, 1)) (hne : ¬ y = 0) (k : ej_Z cc nL rt own nm d (pc + 1) ls (.int (x / y) :: st) H res) : ej_Z cc nL rt own nm d pc ls (.int y :: .int x :: st) H res :=
  z_lift (fun _ _ _ _ _ _ _ _ _ _ _ _ _ _ _ _ _ _ _ _ hC _ hl _ _ kk => lv_idiv hC.1 hC.2.1 hd hne (kk _ hl)) k
theorem z_irem {x y : Int32} (hd : decode cc pc = .ok (.irem, 1)) (hne : ¬ y = 0) (k : ej_Z cc nL rt own nm d (pc + 1) ls (.int (x - x / y * y) :: st) H res) : ej_Z cc nL rt own nm d pc ls (.int y :: .int x :: st) H res :=
  z_lift (fun _ _ _ _ _ _ _ _ _ _ _ _ _ _ _ _ _ _ _ _ hC _ hl _ _ kk => lv_irem hC.1 hC.2.1 hd hne (kk _ hl)) k
theorem z_ladd {x y : Int64} (hd : decode cc pc = .ok (.ladd, 1)) (k : ej_Z cc nL rt own nm d (pc + 1) ls (.long (x + y) :: st) H res) : ej_Z cc nL rt own nm d pc ls (.long y :: .long x :: st) H res :=
  z_lift (fun _ _ _ _ _ _ _ _ _ _ _ _ _ _ _ _ _ _ _ _ hC _ hl _ _ kk => lv_ladd hC.1 hC.2.1 hd (kk _ hl)) k
theorem z_land {x y : Int64} (hd : decode cc pc = .ok (.land, 1)) (k : ej_Z cc nL rt own nm d (pc + 1) ls (.long (x &&& y) :: st) H res) : ej_Z cc nL rt own nm d pc ls (.long y :: .long x :: st) H res :=
  z_lift (fun _ _ _ _ _ _ _ _ _ _ _ _ _ _ _ _ _ _ _ _ hC _ hl _ _ kk => lv_land hC.1 hC.2.1 hd (kk _ hl)) k
theorem z_lor {x y : Int64} (hd : decode cc pc = .ok (.lor, 1)) (k : ej_Z cc nL rt own nm d (pc + 1) ls (.long (x ||| y) :: st) H res) : ej_Z cc nL rt own nm d pc ls (.long y :: .long x :: st) H res :=
  z_lift (fun _ _ _ _ _ _ _ _ _ _ _ _ _ _ _ _ _ _ _ _ hC _ hl _ _ kk => lv_lor hC.1 hC.2.1 hd (kk _ hl)) k
theorem z_iushr {x y : Int32} (hd : decode cc pc = .ok (.iushr, 1)) (k : ej_Z cc nL rt own nm d (pc + 1) ls (.int (x.toUInt32 >>> (y.toUInt32 &&& Int32.toUInt32 31)).toInt32 :: st) H res) : ej_Z cc nL rt own nm d pc ls (.int y :: .int x :: st) H res :=
  z_lift (fun _ _ _ _ _ _ _ _ _ _ _ _ _ _ _ _ _ _ _ _ hC _ hl _ _ kk => lv_iushr hC.1 hC.2.1 hd rfl (kk _ hl)) k
theorem z_lshl {x : Int64} {y : Int32} (hd : decode cc pc = .ok (.lshl, 1)) (k : ej_Z cc nL rt own nm d (pc + 1) ls (.long (x <<< (y.toInt64 &&& 63)) :: st) H res) : ej_Z cc nL rt own nm d pc ls (.int y :: .long x :: st) H res :=
  z_lift (fun _ _ _ _ _ _ _ _ _ _ _ _ _ _ _ _ _ _ _ _ hC _ hl _ _ kk => lv_lshl hC.1 hC.2.1 hd rfl (kk _ hl)) k
theorem z_ineg {x : Int32} (hd : decode cc pc = .ok (.ineg, 1)) (k : ej_Z cc nL rt own nm d (pc + 1) ls (.int (-x) :: st) H res) : ej_Z cc nL rt own nm d pc ls (.int x :: st) H res :=
  z_lift (fun _ _ _ _ _ _ _ _ _ _ _ _ _ _ _ _ _ _ _ _ hC _ hl _ _ kk => lv_ineg hC.1 hC.2.1 hd (kk _ hl)) k
theorem z_lcmp {x y : Int64} (hd : decode cc pc = .ok (.lcmp, 1)) (k : ej_Z cc nL rt own nm d (pc + 1) ls (.int (lg_cmp x y) :: st) H res) : ej_Z cc nL rt own nm d pc ls (.long y :: .long x :: st) H res :=
  z_lift (fun _ _ _ _ _ _ _ _ _ _ _ _ _ _ _ _ _ _ _ _ hC _ hl _ _ kk => W.lcmp hC.1 hC.2.1 hd (kk _ hl)) k
theorem z_i2l {x : Int32} (hd : decode cc pc = .ok (.i2l, 1)) (k : ej_Z cc nL rt own nm d (pc + 1) ls (.long (x.toInt64) :: st) H res) : ej_Z cc nL rt own nm d pc ls (.int x :: st) H res :=
  z_lift (fun _ _ _ _ _ _ _ _ _ _ _ _ _ _ _ _ _ _ _ _ hC _ hl _ _ kk => lv_i2l hC.1 hC.2.1 hd rfl (kk _ hl)) k
theorem z_l2i {x : Int64} (hd : decode cc pc = .ok (.l2i, 1)) (k : ej_Z cc nL rt own nm d (pc + 1) ls (.int (x.toInt32) :: st) H res) : ej_Z cc nL rt own nm d pc ls (.long x :: st) H res :=
  z_lift (fun _ _ _ _ _ _ _ _ _ _ _ _ _ _ _ _ _ _ _ _ hC _ hl _ _ kk => lv_l2i hC.1 hC.2.1 hd rfl (kk _ hl)) k
theorem z_i2b {x : Int32} (hd : decode cc pc = .ok (.i2b, 1)) (k : ej_Z cc nL rt own nm d (pc + 1) ls (.int (x.toInt8.toInt32) :: st) H res) : ej_Z cc nL rt own nm d pc ls (.int x :: st) H res :=
  z_lift (fun _ _ _ _ _ _ _ _ _ _ _ _ _ _ _ _ _ _ _ _ hC _ hl _ _ kk => lv_i2b hC.1 hC.2.1 hd rfl (kk _ hl)) k
theorem z_i2s {x : Int32} (hd : decode cc pc = .ok (.i2s, 1)) (k : ej_Z cc nL rt own nm d (pc + 1) ls (.int (x.toInt16.toInt32) :: st) H res) : ej_Z cc nL rt own nm d pc ls (.int x :: st) H res :=
  z_lift (fun _ _ _ _ _ _ _ _ _ _ _ _ _ _ _ _ _ _ _ _ hC _ hl _ _ kk => lv_i2s hC.1 hC.2.1 hd rfl (kk _ hl)) k
theorem z_i2c {x : Int32} (hd : decode cc pc = .ok (.i2c, 1)) (k : ej_Z cc nL rt own nm d (pc + 1) ls (.int ((x.toUInt32 % 65536).toInt32) :: st) H res) : ej_Z cc nL rt own nm d pc ls (.int x :: st) H res :=
  z_lift (fun _ _ _ _ _ _ _ _ _ _ _ _ _ _ _ _ _ _ _ _ hC _ hl _ _ kk => lv_i2c hC.1 hC.2.1 hd rfl (kk _ hl)) k
theorem z_dup {v : Value} (hd : decode cc pc = .ok (.dup, 1)) (hv : v.category = 1) (k : ej_Z cc nL rt own nm d (pc + 1) ls (v :: v :: st) H res) : ej_Z cc nL rt own nm d pc ls (v :: st) H res :=
  z_lift (fun _ _ _ _ _ _ _ _ _ _ _ _ _ _ _ _ _ _ _ _ hC _ hl _ _ kk => lv_dup hC.1 hC.2.1 hd (by rw [ej_cv_cat]; exact hv) (kk _ hl)) k
theorem z_pop {v : Value} (hd : decode cc pc = .ok (.pop, 1)) (hv : v.category = 1) (k : ej_Z cc nL rt own nm d (pc + 1) ls st H res) : ej_Z cc nL rt own nm d pc ls (v :: st) H res :=
  z_lift (fun _ _ _ _ _ _ _ _ _ _ _ _ _ _ _ _ _ _ _ _ hC _ hl _ _ kk => lv_pop hC.1 hC.2.1 hd (by rw [ej_cv_cat]; exact hv) (kk _ hl)) k
theorem z_dup2 {v w : Value} (hd : decode cc pc = .ok (.dup2, 1)) (hv : v.category = 1) (hw : w.category = 1) (k : ej_Z cc nL rt own nm d (pc + 1) ls (v :: w :: v :: w :: st) H res) : ej_Z cc nL rt own nm d pc ls (v :: w :: st) H res :=
  z_lift (fun _ _ _ _ _ _ _ _ _ _ _ _ _ _ _ _ _ _ _ _ hC _ hl _ _ kk => lv_dup2_11 hC.1 hC.2.1 hd (by rw [ej_cv_cat]; exact hv) (by rw [ej_cv_cat]; exact hw) (kk _ hl)) k
theorem z_if_eq {x : Int32} {off : Int} {tgt : Nat} (hd : decode cc pc = .ok (.ifCond .eq off, 3)) (ht : (pc : Int) + off = (tgt : Int)) (kt : x = 0 → ej_Z cc nL rt own nm d tgt ls st H res) (kf : ¬ x = 0 → ej_Z cc nL rt own nm d (pc + 3) ls st H res) : ej_Z cc nL rt own nm d pc ls (.int x :: st) H res := by
  by_cases hb : x = 0
  · exact z_lift (fun _ _ _ _ _ _ _ _ _ _ _ _ _ _ _ _ _ _ _ _ hC _ hl _ _ kk => lv_if_eq hC.1 hC.2.1 hd ht (fun _ => kk _ hl) (fun hn => by first | exact absurd hb hn | exact absurd hn hb)) (kt hb)
  · exact z_lift (fun _ _ _ _ _ _ _ _ _ _ _ _ _ _ _ _ _ _ _ _ hC _ hl _ _ kk => lv_if_eq hC.1 hC.2.1 hd ht (fun hn => absurd hn hb) (fun _ => kk _ hl)) (kf (by first | exact hb | exact Decidable.not_not.mp hb))
theorem z_icmp_eq {x y : Int32} {off : Int} {tgt : Nat} (hd : decode cc pc = .ok (.if_icmp .eq off, 3)) (ht : (pc : Int) + off = (tgt : Int)) (kt : x = y → ej_Z cc nL rt own nm d tgt ls st H res) (kf : ¬ x = y → ej_Z cc nL rt own nm d (pc + 3) ls st H res) : ej_Z cc nL rt own nm d pc ls (.int y :: .int x :: st) H res := by
  by_cases hb : x = y
  · exact z_lift (fun _ _ _ _ _ _ _ _ _ _ _ _ _ _ _ _ _ _ _ _ hC _ hl _ _ kk => lv_icmp_eq hC.1 hC.2.1 hd ht (fun _ => kk _ hl) (fun hn => by first | exact absurd hb hn | exact absurd hn hb)) (kt hb)
  · exact z_lift (fun _ _ _ _ _ _ _ _ _ _ _ _ _ _ _ _ _ _ _ _ hC _ hl _ _ kk => lv_icmp_eq hC.1 hC.2.1 hd ht (fun hn => absurd hn hb) (fun _ => kk _ hl)) (kf (by first | exact hb | exact Decidable.not_not.mp hb))
theorem z_if_ne {x : Int32} {off : Int} {tgt : Nat} (hd : decode cc pc = .ok (.ifCond .ne off, 3)) (ht : (pc : Int) + off = (tgt : Int)) (kt : ¬ x = 0 → ej_Z cc nL rt own nm d tgt ls st H res) (kf : x = 0 → ej_Z cc nL rt own nm d (pc + 3) ls st H res) : ej_Z cc nL rt own nm d pc ls (.int x :: st) H res := by
  by_cases hb : ¬ x = 0
  · exact z_lift (fun _ _ _ _ _ _ _ _ _ _ _ _ _ _ _ _ _ _ _ _ hC _ hl _ _ kk => lv_if_ne hC.1 hC.2.1 hd ht (fun _ => kk _ hl) (fun hn => by first | exact absurd hb hn | exact absurd hn hb)) (kt hb)
  · exact z_lift (fun _ _ _ _ _ _ _ _ _ _ _ _ _ _ _ _ _ _ _ _ hC _ hl _ _ kk => lv_if_ne hC.1 hC.2.1 hd ht (fun hn => absurd hn hb) (fun _ => kk _ hl)) (kf (by first | exact hb | exact Decidable.not_not.mp hb))
theorem z_icmp_ne {x y : Int32} {off : Int} {tgt : Nat} (hd : decode cc pc = .ok (.if_icmp .ne off, 3)) (ht : (pc : Int) + off = (tgt : Int)) (kt : ¬ x = y → ej_Z cc nL rt own nm d tgt ls st H res) (kf : x = y → ej_Z cc nL rt own nm d (pc + 3) ls st H res) : ej_Z cc nL rt own nm d pc ls (.int y :: .int x :: st) H res := by
  by_cases hb : ¬ x = y
  · exact z_lift (fun _ _ _ _ _ _ _ _ _ _ _ _ _ _ _ _ _ _ _ _ hC _ hl _ _ kk => lv_icmp_ne hC.1 hC.2.1 hd ht (fun _ => kk _ hl) (fun hn => by first | exact absurd hb hn | exact absurd hn hb)) (kt hb)
  · exact z_lift (fun _ _ _ _ _ _ _ _ _ _ _ _ _ _ _ _ _ _ _ _ hC _ hl _ _ kk => lv_icmp_ne hC.1 hC.2.1 hd ht (fun hn => absurd hn hb) (fun _ => kk _ hl)) (kf (by first | exact hb | exact Decidable.not_not.mp hb))
theorem z_if_lt {x : Int32} {off : Int} {tgt : Nat} (hd : decode cc pc = .ok (.ifCond .lt off, 3)) (ht : (pc : Int) + off = (tgt : Int)) (kt : x < 0 → ej_Z cc nL rt own nm d tgt ls st H res) (kf : ¬ x < 0 → ej_Z cc nL rt own nm d (pc + 3) ls st H res) : ej_Z cc nL rt own nm d pc ls (.int x :: st) H res := by
  by_cases hb : x < 0
  · exact z_lift (fun _ _ _ _ _ _ _ _ _ _ _ _ _ _ _ _ _ _ _ _ hC _ hl _ _ kk => lv_if_lt hC.1 hC.2.1 hd ht (fun _ => kk _ hl) (fun hn => by first | exact absurd hb hn | exact absurd hn hb)) (kt hb)
  · exact z_lift (fun _ _ _ _ _ _ _ _ _ _ _ _ _ _ _ _ _ _ _ _ hC _ hl _ _ kk => lv_if_lt hC.1 hC.2.1 hd ht (fun hn => absurd hn hb) (fun _ => kk _ hl)) (kf (by first | exact hb | exact Decidable.not_not.mp hb))
theorem z_icmp_lt {x y : Int32} {off : Int} {tgt : Nat} (hd : decode cc pc = .ok (.if_icmp .lt off, 3)) (ht : (pc : Int) + off = (tgt : Int)) (kt : x < y → ej_Z cc nL rt own nm d tgt ls st H res) (kf : ¬ x < y → ej_Z cc nL rt own nm d (pc + 3) ls st H res) : ej_Z cc nL rt own nm d pc ls (.int y :: .int x :: st) H res := by
  by_cases hb : x < y
  · exact z_lift (fun _ _ _ _ _ _ _ _ _ _ _ _ _ _ _ _ _ _ _ _ hC _ hl _ _ kk => lv_icmp_lt hC.1 hC.2.1 hd ht (fun _ => kk _ hl) (fun hn => by first | exact absurd hb hn | exact absurd hn hb)) (kt hb)
  · exact z_lift (fun _ _ _ _ _ _ _ _ _ _ _ _ _ _ _ _ _ _ _ _ hC _ hl _ _ kk => lv_icmp_lt hC.1 hC.2.1 hd ht (fun hn => absurd hn hb) (fun _ => kk _ hl)) (kf (by first | exact hb | exact Decidable.not_not.mp hb))
theorem z_if_ge {x : Int32} {off : Int} {tgt : Nat} (hd : decode cc pc = .ok (.ifCond .ge off, 3)) (ht : (pc : Int) + off = (tgt : Int)) (kt : 0 ≤ x → ej_Z cc nL rt own nm d tgt ls st H res) (kf : ¬ 0 ≤ x → ej_Z cc nL rt own nm d (pc + 3) ls st H res) : ej_Z cc nL rt own nm d pc ls (.int x :: st) H res := by
  by_cases hb : 0 ≤ x
  · exact z_lift (fun _ _ _ _ _ _ _ _ _ _ _ _ _ _ _ _ _ _ _ _ hC _ hl _ _ kk => lv_if_ge hC.1 hC.2.1 hd ht (fun _ => kk _ hl) (fun hn => by first | exact absurd hb hn | exact absurd hn hb)) (kt hb)
  · exact z_lift (fun _ _ _ _ _ _ _ _ _ _ _ _ _ _ _ _ _ _ _ _ hC _ hl _ _ kk => lv_if_ge hC.1 hC.2.1 hd ht (fun hn => absurd hn hb) (fun _ => kk _ hl)) (kf (by first | exact hb | exact Decidable.not_not.mp hb))
theorem z_icmp_ge {x y : Int32} {off : Int} {tgt : Nat} (hd : decode cc pc = .ok (.if_icmp .ge off, 3)) (ht : (pc : Int) + off = (tgt : Int)) (kt : y ≤ x → ej_Z cc nL rt own nm d tgt ls st H res) (kf : ¬ y ≤ x → ej_Z cc nL rt own nm d (pc + 3) ls st H res) : ej_Z cc nL rt own nm d pc ls (.int y :: .int x :: st) H res := by
  by_cases hb : y ≤ x
  · exact z_lift (fun _ _ _ _ _ _ _ _ _ _ _ _ _ _ _ _ _ _ _ _ hC _ hl _ _ kk => lv_icmp_ge hC.1 hC.2.1 hd ht (fun _ => kk _ hl) (fun hn => by first | exact absurd hb hn | exact absurd hn hb)) (kt hb)
  · exact z_lift (fun _ _ _ _ _ _ _ _ _ _ _ _ _ _ _ _ _ _ _ _ hC _ hl _ _ kk => lv_icmp_ge hC.1 hC.2.1 hd ht (fun hn => absurd hn hb) (fun _ => kk _ hl)) (kf (by first | exact hb | exact Decidable.not_not.mp hb))
theorem z_if_gt {x : Int32} {off : Int} {tgt : Nat} (hd : decode cc pc = .ok (.ifCond .gt off, 3)) (ht : (pc : Int) + off = (tgt : Int)) (kt : 0 < x → ej_Z cc nL rt own nm d tgt ls st H res) (kf : ¬ 0 < x → ej_Z cc nL rt own nm d (pc + 3) ls st H res) : ej_Z cc nL rt own nm d pc ls (.int x :: st) H res := by
  by_cases hb : 0 < x
  · exact z_lift (fun _ _ _ _ _ _ _ _ _ _ _ _ _ _ _ _ _ _ _ _ hC _ hl _ _ kk => lv_if_gt hC.1 hC.2.1 hd ht (fun _ => kk _ hl) (fun hn => by first | exact absurd hb hn | exact absurd hn hb)) (kt hb)
  · exact z_lift (fun _ _ _ _ _ _ _ _ _ _ _ _ _ _ _ _ _ _ _ _ hC _ hl _ _ kk => lv_if_gt hC.1 hC.2.1 hd ht (fun hn => absurd hn hb) (fun _ => kk _ hl)) (kf (by first | exact hb | exact Decidable.not_not.mp hb))
theorem z_icmp_gt {x y : Int32} {off : Int} {tgt : Nat} (hd : decode cc pc = .ok (.if_icmp .gt off, 3)) (ht : (pc : Int) + off = (tgt : Int)) (kt : y < x → ej_Z cc nL rt own nm d tgt ls st H res) (kf : ¬ y < x → ej_Z cc nL rt own nm d (pc + 3) ls st H res) : ej_Z cc nL rt own nm d pc ls (.int y :: .int x :: st) H res := by
  by_cases hb : y < x
  · exact z_lift (fun _ _ _ _ _ _ _ _ _ _ _ _ _ _ _ _ _ _ _ _ hC _ hl _ _ kk => lv_icmp_gt hC.1 hC.2.1 hd ht (fun _ => kk _ hl) (fun hn => by first | exact absurd hb hn | exact absurd hn hb)) (kt hb)
  · exact z_lift (fun _ _ _ _ _ _ _ _ _ _ _ _ _ _ _ _ _ _ _ _ hC _ hl _ _ kk => lv_icmp_gt hC.1 hC.2.1 hd ht (fun hn => absurd hn hb) (fun _ => kk _ hl)) (kf (by first | exact hb | exact Decidable.not_not.mp hb))
theorem z_if_le {x : Int32} {off : Int} {tgt : Nat} (hd : decode cc pc = .ok (.ifCond .le off, 3)) (ht : (pc : Int) + off = (tgt : Int)) (kt : x ≤ 0 → ej_Z cc nL rt own nm d tgt ls st H res) (kf : ¬ x ≤ 0 → ej_Z cc nL rt own nm d (pc + 3) ls st H res) : ej_Z cc nL rt own nm d pc ls (.int x :: st) H res := by
  by_cases hb : x ≤ 0
  · exact z_lift (fun _ _ _ _ _ _ _ _ _ _ _ _ _ _ _ _ _ _ _ _ hC _ hl _ _ kk => lv_if_le hC.1 hC.2.1 hd ht (fun _ => kk _ hl) (fun hn => by first | exact absurd hb hn | exact absurd hn hb)) (kt hb)
  · exact z_lift (fun _ _ _ _ _ _ _ _ _ _ _ _ _ _ _ _ _ _ _ _ hC _ hl _ _ kk => lv_if_le hC.1 hC.2.1 hd ht (fun hn => absurd hn hb) (fun _ => kk _ hl)) (kf (by first | exact hb | exact Decidable.not_not.mp hb))
theorem z_icmp_le {x y : Int32} {off : Int} {tgt : Nat} (hd : decode cc pc = .ok (.if_icmp .le off, 3)) (ht : (pc : Int) + off = (tgt : Int)) (kt : x ≤ y → ej_Z cc nL rt own nm d tgt ls st H res) (kf : ¬ x ≤ y → ej_Z cc nL rt own nm d (pc + 3) ls st H res) : ej_Z cc nL rt own nm d pc ls (.int y :: .int x :: st) H res := by
  by_cases hb : x ≤ y
  · exact z_lift (fun _ _ _ _ _ _ _ _ _ _ _ _ _ _ _ _ _ _ _ _ hC _ hl _ _ kk => lv_icmp_le hC.1 hC.2.1 hd ht (fun _ => kk _ hl) (fun hn => by first | exact absurd hb hn | exact absurd hn hb)) (kt hb)
  · exact z_lift (fun _ _ _ _ _ _ _ _ _ _ _ _ _ _ _ _ _ _ _ _ hC _ hl _ _ kk => lv_icmp_le hC.1 hC.2.1 hd ht (fun hn => absurd hn hb) (fun _ => kk _ hl)) (kf (by first | exact hb | exact Decidable.not_not.mp hb))
theorem z_goto {off : Int} {tgt : Nat} (hd : decode cc pc = .ok (.goto off, 3)) (ht : (pc : Int) + off = (tgt : Int)) (k : ej_Z cc nL rt own nm d tgt ls st H res) : ej_Z cc nL rt own nm d pc ls st H res :=
  z_lift (fun _ _ _ _ _ _ _ _ _ _ _ _ _ _ _ _ _ _ _ _ hC _ hl _ _ kk => lv_goto hC.1 hC.2.1 hd ht (kk _ hl)) k
theorem z_tabOut {dflt lo hi : Int} {offs : Array Int} {len tgt : Nat} {x : Int32} (hd : decode cc pc = .ok (.tableswitch dflt lo hi offs, len)) (h : x.toInt < lo ∨ hi < x.toInt) (ht : (pc : Int) + dflt = (tgt : Int)) (k : ej_Z cc nL rt own nm d tgt ls st H res) : ej_Z cc nL rt own nm d pc ls (.int x :: st) H res :=
  z_lift (fun _ _ _ _ _ _ _ _ _ _ _ _ _ _ _ _ _ _ _ _ hC _ hl _ _ kk => lv_tableOut hC.1 hC.2.1 hd h ht (kk _ hl)) k
theorem z_tabIn {dflt lo hi off : Int} {offs : Array Int} {len tgt : Nat} {x : Int32} (hd : decode cc pc = .ok (.tableswitch dflt lo hi offs, len)) (h1 : ¬ x.toInt < lo) (h2 : ¬ hi < x.toInt) (ho : offs[(x.toInt - lo).toNat]? = some off) (ht : (pc : Int) + off = (tgt : Int)) (k : ej_Z cc nL rt own nm d tgt ls st H res) : ej_Z cc nL rt own nm d pc ls (.int x :: st) H res :=
  z_lift (fun _ _ _ _ _ _ _ _ _ _ _ _ _ _ _ _ _ _ _ _ hC _ hl _ _ kk => lv_tableIn hC.1 hC.2.1 hd h1 h2 ho ht (kk _ hl)) k
theorem z_lookup {dflt off : Int} {ps : Array (Int × Int)} {len tgt : Nat} {x : Int32} (hd : decode cc pc = .ok (.lookupswitch dflt ps, len)) (hp : (ps.toList.zip (ps.toList.drop 1)).all (fun (a, next) => a.1 < next.1) = true) (ho : Op.lookupswitch.offset ps.toList dflt x.toInt = off) (ht : (pc : Int) + off = (tgt : Int)) (k : ej_Z cc nL rt own nm d tgt ls st H res) : ej_Z cc nL rt own nm d pc ls (.int x :: st) H res :=
  z_lift (fun _ _ _ _ _ _ _ _ _ _ _ _ _ _ _ _ _ _ _ _ hC _ hl _ _ kk => lv_lookup hC.1 hC.2.1 hd hp ho ht (kk _ hl)) k
end EJ
