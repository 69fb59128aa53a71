/-! contracts; calls; ends -/
def ej_Pc (D : va_G) (cy : Nat → ClassId) (ad : Nat → Nat) (H : ej_H) (sz : Nat) (as : List Value) : Array Value → State → Prop :=
  va_Pc (as.map (ej_cv ad)) fun U => U.heap.size = sz ∧ H.1.length ≤ 1000 ∧ va_P D vwCl (ej_ws cy ad H) U.heap ∧ va_K D vwCl (ej_tys cy) U ∧ va_D (fun _ => True) (ej_ws cy ad H) ∧ ej_ST H.2.1 ad (va_A (ej_ws cy ad H) sz) U U.heap
def ej_Qc (D : va_G) (cy : Nat → ClassId) (ad : Nat → Nat) (H : ej_H) (sz : Nat) (res : Option Value × ej_H) : Array Value → State → Outcome → State → Prop := fun _ st oc t =>
  (∃ ad' : Nat → Nat, (∀ k, k < H.1.length ∨ res.2.1.length ≤ k → ad' k = ad k) ∧ oc = .returned (res.1.map (ej_cv ad')) ∧ va_P D vwCl (ej_ws cy ad' res.2) t.heap ∧ va_D (va_A (ej_ws cy ad H) sz) (ej_ws cy ad' res.2)) ∧ va_F (va_A (ej_ws cy ad H) sz) st t
/-- a method's contract at one state: with d frames of room, these arguments and this state it returns with that answer and that state -/
def ej_Ct (y : MethodName) (cc : ByteArray) (nL : Nat) (rt : Option FieldType) (d : Nat) (as : List Value) (H : ej_H) (res : Option Value × ej_H) : Prop :=
  ej_PR H res.2 ∧ ∀ (l : Launch) (D : va_G) (cy : Nat → ClassId) (ad : Nat → Nat) (sz mc ms : Nat), H.1.length + mc = res.2.1.length → ej_ns H.1 + ms = ej_ns res.2.1 →
    Met l y (Cond.code y cc nL rt :: ej_tbl) { frames := d, cells := mc, slots := ms, locals := 40 * d } (ej_Pc D cy ad H sz as) (ej_Qc D cy ad H sz res) mc ms (va_A (ej_ws cy ad H) sz)
theorem ej_good : ej_tbl.all goodWord = true := List.all_eq_true.mpr fun w h => (List.mem_filter.mp h).2
theorem ej_goodIn {y : MethodName} {cc : ByteArray} {nL : Nat} {rt : Option FieldType} (h : Cond.code y cc nL rt ∈ ej_tbl) : GoodIn ej_tbl (Cond.code y cc nL rt :: ej_tbl) := fun w hw => by
  have hm : w ∈ ej_tbl := by
    rcases List.mem_cons.mp hw with rfl | h1
    · exact h
    · exact h1
  exact ⟨hm, good_of_word (List.all_eq_true.mp ej_good w hm)⟩
theorem ej_args {ad : Nat → Nat} (as : List Value) : ∀ i : Nat, lv_args i (as.map (ej_cv ad)) = ej_lm ad (lv_args i as) := by
  induction as with
  | nil => intro i; rfl
  | cons v vs ih =>
    intro i
    show (i, ej_cv ad v) :: lv_args _ (vs.map (ej_cv ad)) = (i, ej_cv ad v) :: ej_lm ad _
    rw [ej_cv_cat, ih]
theorem ej_slen {ad : Nat → Nat} (as : List Value) : (lg_sl (as.map (ej_cv ad))).length = (lg_sl as).length := by
  induction as with
  | nil => rfl
  | cons v vs ih =>
    unfold lg_sl at ih ⊢
    rw [List.map_cons, List.flatMap_cons, List.flatMap_cons, List.length_append, List.length_append, ih, ej_cv_cat]
    by_cases h : v.category = 2
    · rw [if_pos h, if_pos h]; rfl
    · rw [if_neg h, if_neg h]; rfl
/-- the walk of a method's body gives its contract -/
theorem z_met {y : MethodName} {cc : ByteArray} {nL : Nat} {rt : Option FieldType} {d : Nat} {as : List Value} {H : ej_H} {res : Option Value × ej_H} (hy : plainName y.cls = true) (hsl : (lg_sl as).length ≤ nL) (k : ej_Z cc nL rt y.cls y.name d 0 (lv_args 0 as) [] H res) : ej_Ct y cc nL rt d as H res := by
  refine ⟨k.1, fun l D cy ad sz mc ms hmc hms => ?_⟩
  refine Met.ofW (cc := cc) (maxL := nL) (ret := rt) hy rfl ?_
  intro p e s m args below meth c s₁ B hml hv
  obtain ⟨rfl, hsz, hle, hP, hK, hD0, hST⟩ := hv
  have hx := B.exec
  have hb := B.bytes
  have hr := B.returns
  have hts := atoms_spec (ws := Cond.code y cc nL rt :: ej_tbl) B.pre
  have hown : s.vm.findClass y.cls = some m.cls := findClass_of_methodNamed B.named
  have hlocks := B.notSynchronized
  subst hsz
  have hl := lv_entry (as.map (ej_cv ad)) (n := nL) (by rw [ej_slen]; exact hsl)
  rw [lg_entry_eq]
  rw [ej_args] at hl
  refine k.2 p l e _ s m _ below meth c (va_A (ej_ws cy ad H) s.heap.size) D cy ad s.heap [] 0 0 mc ms _ _
    ⟨hx, hb, hml, hr, hown, fun w hw => hts w (List.mem_cons_of_mem _ hw), hlocks, hK, fun q hq => Or.inr hq, fun hn => (name_of_methodNamed B.named B.method).1.trans hn⟩
    hST hle (Nat.le_refl _) (Nat.le_refl _) (by omega) (by omega) (Nat.le_refl _) (Nat.le_refl _) hl hP hD0.self va_S.rf fun ad' Hc' locs' lsc' pc' hag hP' hD' hS' hrt => ?_
  obtain ⟨r, H'⟩ := res
  cases r with
  | none =>
    obtain ⟨h1, h2⟩ := hrt
    exact W.vret hx hb (hr.trans h2) (fun t ht hW => ⟨⟨ad', hag, rfl, by rw [ht]; exact hP', hD'⟩, hS'.F ht⟩) hS'.2.2 h1
  | some v =>
    cases v with
    | int v =>
      obtain ⟨h1, ty, h2, h3⟩ := hrt
      exact W.zret hx hb (hr.trans h2) h3 (fun t ht hW => ⟨⟨ad', hag, rfl, by rw [ht]; exact hP', hD'⟩, hS'.F ht⟩) hS'.2.2 h1
    | long v =>
      obtain ⟨h1, h2⟩ := hrt
      exact W.lret hx hb (hr.trans h2) (fun t ht hW => ⟨⟨ad', hag, rfl, by rw [ht]; exact hP', hD'⟩, hS'.F ht⟩) hS'.2.2 h1
    | ref a =>
      obtain ⟨h1, n, h2⟩ := hrt
      exact W.aret hx hb (hr.trans h2) (Or.inl ⟨n, rfl⟩) (Or.inr ⟨ad' a, rfl⟩) (fun t ht hW => ⟨⟨ad', hag, rfl, by rw [ht]; exact hP', hD'⟩, hS'.F ht⟩) hS'.2.2 h1
    | _ => exact absurd hrt (fun h => h)
section EJ
variable {cc : ByteArray} {nL : Nat} {rt : Option FieldType} {own nm : String} {d pc : Nat} {ls : List (Nat × Value)} {st : List Value} {H : ej_H} {res : Option Value × ej_H}
theorem z_end {r : Option Value} {st0 : List Value} (hr : ej_rt cc rt pc r) (hst : r.toList = st0) : ej_Z cc nL rt own nm d pc ls st0 H (r, H) := by
  subst hst
  refine ⟨ej_PR.rf, fun p l e R s m args below meth c A D cy ad Hc locs cells slots cells' slots' lsc Q hC hT hz h1 h2 h3 h4 h5 h6 hl hP hD hS hend => ?_⟩
  dsimp only at h3 h4
  have e1 : cells = cells' := by omega
  have e2 : slots = slots' := by omega
  subst e1; subst e2
  exact hend ad Hc locs lsc pc (fun _ _ => rfl) hP hD hS hr
theorem z_ret (hd : decode cc pc = .ok (.return_, 1)) (hr : rt = none) : ej_Z cc nL rt own nm d pc ls [] H (none, H) := z_end ⟨hd, hr⟩ rfl
theorem z_iret {v : Int32} {ty : FieldType} (hd : decode cc pc = .ok (.ireturn, 1)) (hr : rt = some ty) (hn : narrow ty (.int v) = .int v) : ej_Z cc nL rt own nm d pc ls [.int v] H (some (.int v), H) := z_end ⟨hd, ty, hr, hn⟩ rfl
theorem z_lret {v : Int64} (hd : decode cc pc = .ok (.lreturn, 1)) (hr : rt = some .long) : ej_Z cc nL rt own nm d pc ls [.long v] H (some (.long v), H) := z_end ⟨hd, hr⟩ rfl
theorem z_aret {a : Nat} {n : String} (hd : decode cc pc = .ok (.areturn, 1)) (hr : rt = some (.object n)) : ej_Z cc nL rt own nm d pc ls [.ref a] H (some (.ref a), H) := z_end ⟨hd, n, hr⟩ rfl
theorem ej_free {A : Nat → Prop} {cy : Nat → ClassId} {ad : Nat → Nat} {H0 Hc : Heap} {locs : List Loc} (hD : va_D A (ej_ws cy ad H)) (hS : va_S A H0 Hc locs) (hA : ∀ q, H0.size ≤ q → A q) : ∀ q, va_A (ej_ws cy ad H) Hc.size q → A q := by
  intro q h
  rcases h with ⟨k, e, h⟩ | h
  · exact hD.2 k (q, e) h
  · exact hA q (Nat.le_trans hS.1 h)
theorem ej_after {p : Program} {l : Launch} {e : Env} {R : Room} {s : State} {m : MethodId} {args : Array Value} {below : List Frame} {meth : Method} {c : Code} {A : Nat → Prop} {D : va_G} {cy : Nat → ClassId} {ad : Nat → Nat} {Hc : Heap} {locs : List Loc} {cells slots mc ms : Nat} {lsc : Array Slot} {Q : State → Prop} {st0 rest : List Value} {a : Array Value} {res1 : Option Value × ej_H}
    (hr : va_Run p l e R s m args below meth c Hc locs cells slots mc ms (F0 m pc lsc st0) rest (ej_Qc D cy ad H Hc.size res1 a) (va_A (ej_ws cy ad H) Hc.size)) (hD : va_D A (ej_ws cy ad H)) (hS : va_S A s.heap Hc locs) (hA : ∀ q, s.heap.size ≤ q → A q)
    (kk : ∀ (ad' : Nat → Nat) (H1 : Heap) (locs1 : List Loc), (∀ k, k < H.1.length ∨ res1.2.1.length ≤ k → ad' k = ad k) → va_P D vwCl (ej_ws cy ad' res1.2) H1 → va_D A (ej_ws cy ad' res1.2) → va_S A s.heap H1 locs1 → W p l e R s m args below meth c H1 locs1 (cells + mc) (slots + ms) Q (F0 m (pc + 3) lsc ((res1.1.map (ej_cv ad')).toList ++ rest))) : W p l e R s m args below meth c Hc locs cells slots Q (F0 m pc lsc st0) := by
  intro T hT X
  obtain ⟨v, st₀, t, T', L, h0, X', hL, e1, e2, ⟨⟨ad', hag, hv, hP1, hD1⟩, hz, hk⟩, st⟩ := hr T hT X
  have hv' : v = res1.1.map (ej_cv ad') := by cases hv; rfl
  subst hv'
  rw [h0] at hz hk
  have hF := ej_free hD hS hA
  obtain ⟨t2, a1, b1⟩ := kk ad' T'.heap (locs ++ L) hag (by rw [e1]; exact hP1) (hD1.weaken fun k q _ h => hF q.1 h)
    ⟨Nat.le_trans hS.1 (by rw [e1]; exact hz), fun q h1 h2 => by rw [e1, hk q (Nat.lt_of_lt_of_le h1 hS.1) (fun z => h2 (hF q z))]; exact hS.2.1 q h1 h2, fun q hq => by
      rcases List.mem_append.mp hq with h | h
      · exact hS.2.2 q h
      · exact hF _ (hL q h)⟩ T' rfl X'
  exact ⟨t2, st t2 a1, b1⟩
/-- a call, whatever its kind -/
theorem z_callG {res1 : Option Value × ej_H} {rest st0 : List Value} (hPR : ej_PR H res1.2) (hok : res1.2.1.length = H.1.length ∨ (ls.all (fun q => ej_okv H.1.length q.2) = true ∧ rest.all (ej_okv H.1.length) = true))
    (hrun : ∀ (p : Program) (l : Launch) (e : Env) (R : Room) (s : State) (m : MethodId) (args : Array Value) (below : List Frame) (meth : Method) (c : Code) (A : Nat → Prop) (D : va_G) (cy : Nat → ClassId) (ad : Nat → Nat) (Hc : Heap) (locs : List Loc) (cells slots mc ms : Nat) (lsc : Array Slot),
      ej_C cc nL rt own nm p s m args meth c A D cy → ej_ST H.2.1 ad A s s.heap → H.1.length ≤ 1000 → d + 1 ≤ R.frames → 40 * (d + 1) ≤ R.locals → lsc.size = nL → va_P D vwCl (ej_ws cy ad H) Hc → va_D A (ej_ws cy ad H) → va_S A s.heap Hc locs →
      H.1.length + mc = res1.2.1.length → ej_ns H.1 + ms = ej_ns res1.2.1 → cells + mc ≤ R.cells → slots + ms ≤ R.slots →
      ∃ a, va_Run p l e R s m args below meth c Hc locs cells slots mc ms (F0 m pc lsc (st0.map (ej_cv ad))) (rest.map (ej_cv ad)) (ej_Qc D cy ad H Hc.size res1 a) (va_A (ej_ws cy ad H) Hc.size))
    (k : ej_Z cc nL rt own nm (d + 1) (pc + 3) ls (res1.1.toList ++ rest) res1.2 res) : ej_Z cc nL rt own nm (d + 1) pc ls st0 H res := by
  refine ⟨hPR.tr k.1, fun p l e R s m args below meth c A D cy ad Hc locs cells slots cells' slots' lsc Q hC hT hz h1 h2 h3 h4 h5 h6 hl hP hD hS hend => ?_⟩
  obtain ⟨p1, p2, p3⟩ := hPR
  obtain ⟨q1, q2, q3⟩ := k.1
  obtain ⟨mc, hmc⟩ : ∃ mc, H.1.length + mc = res1.2.1.length := ⟨res1.2.1.length - H.1.length, by omega⟩
  obtain ⟨ms, hms⟩ : ∃ ms, ej_ns H.1 + ms = ej_ns res1.2.1 := ⟨ej_ns res1.2.1 - ej_ns H.1, by omega⟩
  obtain ⟨a, hr⟩ := hrun p l e R s m args below meth c A D cy ad Hc locs cells slots mc ms lsc hC hT hz h1 h2 hl.1 hP hD hS hmc hms (by omega) (by omega)
  refine ej_after hr hD hS hC.2.2.2.2.2.2.2.2.1 fun ad' H1 locs1 hag hP1 hD1 hS1 => ?_
  have hadge : ∀ b, 1000 ≤ b → ad' b = ad b := fun b hb => hag b (Or.inr (by have := (p3 hz).1; omega))
  have hh : ej_lm ad' ls = ej_lm ad ls ∧ rest.map (ej_cv ad') = rest.map (ej_cv ad) := by
    rcases hok with h | ⟨g1, g2⟩
    · have : ad' = ad := funext fun b => hag b (by omega)
      rw [this]
      exact ⟨rfl, rfl⟩
    · have h9 : ∀ b, b < H.1.length ∨ 1000 ≤ b → ad' b = ad b := fun b hb => hb.elim (fun q => hag b (Or.inl q)) (hadge b)
      exact ⟨ej_ls_ok h9 g1, ej_cvs_ok h9 g2⟩
  have hst : (res1.1.map (ej_cv ad')).toList ++ rest.map (ej_cv ad) = (res1.1.toList ++ rest).map (ej_cv ad') := by
    rw [List.map_append, hh.2]
    cases res1.1 <;> rfl
  rw [hst]
  exact k.2 p l e R s m args below meth c A D cy ad' H1 locs1 (cells + mc) (slots + ms) cells' slots' lsc Q hC ((hT.congr (p3 hz).2).ads hadge) (p3 hz).1 h1 h2 (by omega) (by omega) h5 h6 (by rw [hh.1]; exact hl) hP1 hD1 hS1
    fun ad2 Hc' locs' lsc' pc' ha => hend ad2 Hc' locs' lsc' pc' fun b hb => (ha b (by omega)).trans (hag b (by omega))
/-- the method's own words -/
def ej_MF (y : MethodName) (cc : ByteArray) (nL : Nat) (rt : Option FieldType) (n : Nat) : Prop := Cond.code y cc nL rt ∈ ej_tbl ∧ Cond.initialized y.cls ∈ ej_tbl ∧ (y.cls ≠ "java/lang/invoke/MethodHandle" ∧ y.cls ≠ "java/lang/invoke/VarHandle" ∧ (parseMethodDescriptor y.desc).map (fun d => d.parameters.length) = some n) ∧ nL ≤ 21
/-- its link, plain or of a nest mate -/
def ej_ML (own : String) (idx : Nat) (y : MethodName) : Prop := Cond.methodLink own idx y ∈ ej_tbl ∨ ∃ host, Cond.methodLinkNest own idx y host ∈ ej_nst
theorem ej_blind {D : va_G} {cy : Nat → ClassId} {ad : Nat → Nat} {sz : Nat} {as : List Value} : FrameBlind (ej_Pc D cy ad H sz as) := fun a U g mk q => by
  obtain ⟨q0, q1, q2, q3, q4, q5, q6⟩ := q
  exact ⟨q0, q1, q2, q3, va_K.moved (u := U) (U := U.calling g mk a) (Vm.Alike.refl U.vm) q4, q5, q6.same (u := U) (U := U.calling g mk a) rfl⟩
theorem ej_at_call {p : Program} {s : State} {m : MethodId} {args : Array Value} {meth : Method} {c : Code} {A : Nat → Prop} {D : va_G} {cy : Nat → ClassId} {ad : Nat → Nat} {Hc : Heap} {locs : List Loc} {as : List Value}
    (hC : ej_C cc nL rt own nm p s m args meth c A D cy) (hT : ej_ST H.2.1 ad A s s.heap) (hz : H.1.length ≤ 1000) (hP : va_P D vwCl (ej_ws cy ad H) Hc) (hD : va_D A (ej_ws cy ad H)) (hS : va_S A s.heap Hc locs) :
    ∀ U : State, U.heap = Hc → s.WarmedH U.vm → ej_Pc D cy ad H Hc.size as (as.map (ej_cv ad)).toArray U := by
  intro U hU hW
  subst hU
  have hF := ej_free hD hS hC.2.2.2.2.2.2.2.2.1
  exact ⟨rfl, rfl, hz, hP, va_K.moved hW.alike hC.2.2.2.2.2.2.2.1, hD.weaken (fun _ _ _ _ => trivial), ((hT.kept hS.2.1).narrow hF).warm hW⟩
theorem ej_room8 {m : MethodId} {lsc : Array Slot} {st0 rest : List Value} (h : (rest.map fun v => v.category).sum ≤ 8) {ad : Nat → Nat} : 2 * (F0 m pc lsc st0).monitorRoom + ((rest.map (ej_cv ad)).map fun v => v.category).sum ≤ 8 := by
  refine lv_room ?_
  rw [List.map_map]
  have : ((fun v : Value => v.category) ∘ ej_cv ad) = fun v => v.category := funext fun v => ej_cv_cat ad v
  rw [this]
  exact h
theorem ej_rev {ad : Nat → Nat} {as rest : List Value} : (as.reverse ++ rest).map (ej_cv ad) = (as.map (ej_cv ad)).reverse ++ rest.map (ej_cv ad) := by
  rw [List.map_append, List.map_reverse]
theorem z_callS {y : MethodName} {c2 : ByteArray} {n2 n idx : Nat} {r2 : Option FieldType} {as rest st0 : List Value} {res1 : Option Value × ej_H} (hd : decode cc pc = .ok (.invokestatic idx, 3)) (hL : ej_ML own idx y) (hM : ej_MF y c2 n2 r2 n) (hs : Cond.static y ∈ ej_tbl) (hn : as.length = n) (hst : st0 = as.reverse ++ rest) (h8 : (rest.map fun v => v.category).sum ≤ 8)
    (hc : ej_Ct y c2 n2 r2 d as H res1) (hok : res1.2.1.length = H.1.length ∨ (ls.all (fun q => ej_okv H.1.length q.2) = true ∧ rest.all (ej_okv H.1.length) = true))
    (k : ej_Z cc nL rt own nm (d + 1) (pc + 3) ls (res1.1.toList ++ rest) res1.2 res) : ej_Z cc nL rt own nm (d + 1) pc ls st0 H res := by
  subst hst
  refine z_callG hc.1 hok (fun p l e R s m args below meth c A D cy ad Hc locs cells slots mc ms lsc hC hT hz h1 h2 hsz hP hD hS hmc hms hc1 hs1 => ?_) k
  obtain ⟨hx, hb, hml, hr, hown, hts, hlk, hK, hA, hi9⟩ := id hC
  obtain ⟨m1, m2, m3, m4⟩ := hM
  have hMet := hc.2 l D cy ad Hc.size mc ms hmc hms
  rcases hL with h | ⟨host, h⟩
  · have cw : CallB R s args own idx y c2 n2 r2 (Cond.code y c2 n2 r2 :: ej_tbl) { frames := d, cells := mc, slots := ms, locals := 40 * d } mc ms n :=
      callB_of n hts (ej_goodIn m1) rfl rfl rfl (hts _ m2) (hts _ h) m3 ⟨h1, by dsimp only; omega⟩
    exact ⟨_, va_runS (As := as.map (ej_cv ad)) (rest := rest.map (ej_cv ad)) ⟨hx, hb, hml, hown, hts⟩ hMet ⟨cw, hts _ hs⟩ ⟨ej_blind, ej_at_call hC hT hz hP hD hS⟩ rfl (by rw [List.length_map]; exact hn) hsz ej_rev (ej_room8 h8) hd ⟨hc1, hs1⟩⟩
  · have cw := va_cnB (R := R) (args := args) n hts (ej_goodIn m1) rfl (rm := { frames := d, cells := mc, slots := ms, locals := 40 * d }) (mc := mc) (ms := ms) rfl rfl (hT.2.2.2.2.2.2 _ h) (hts _ m2) m3 ⟨h1, by dsimp only; omega⟩
    exact ⟨_, va_runSN (As := as.map (ej_cv ad)) (rest := rest.map (ej_cv ad)) ⟨hx, hb, hml, hown, hts⟩ hMet ⟨cw, hts _ hs, trivial⟩ ⟨ej_blind, ej_at_call hC hT hz hP hD hS⟩ rfl (by rw [List.length_map]; exact hn) hsz ej_rev (ej_room8 h8) hd ⟨hc1, hs1⟩⟩
/-- the receiver: an object of the shape, or a String constant -/
def ej_RC (H : ej_H) (b : Nat) (C : String) : Prop := (∃ c T N rs, H.1[b]? = some (c, N, rs) ∧ c < 50 ∧ vwCl[c]? = some (C, T, N)) ∨ ∃ i, i < ej_stx.length ∧ b = 2000 + i ∧ C = "java/lang/String"
theorem ej_recv {p : Program} {s : State} {m : MethodId} {args : Array Value} {meth : Method} {c : Code} {A : Nat → Prop} {D : va_G} {cy : Nat → ClassId} {ad : Nat → Nat} {Hc : Heap} {locs : List Loc} {b : Nat} {C : String}
    (hC : ej_C cc nL rt own nm p s m args meth c A D cy) (hT : ej_ST H.2.1 ad A s s.heap) (hP : va_P D vwCl (ej_ws cy ad H) Hc) (hS : va_S A s.heap Hc locs) (hR : ej_RC H b C) : ∃ cellB : Cell, Hc[ad b]? = some cellB ∧ cellB.vm.isStatics = false ∧ s.vm.findClass C = some cellB.cls := by
  rcases hR with ⟨c, T, N, rs, h1, h2, h3⟩ | ⟨i, h1, rfl, rfl⟩
  · exact va_recv hC.2.2.2.2.2.2.2.1 hP h3 (ej_ws_obj h1 h2)
  · exact vk_recv (adK := fun i => ad (2000 + i)) (i := i) hT.2.2.2.2.1 h1 hS
theorem z_callV {y : MethodName} {C : String} {c2 : ByteArray} {n2 n idx b : Nat} {r2 : Option FieldType} {as rest st0 : List Value} {res1 : Option Value × ej_H} (hd : decode cc pc = .ok (.invokevirtual idx, 3)) (hL : ej_ML own idx y) (hM : ej_MF y c2 n2 r2 n) (hi : Cond.instanceMethod y ∈ ej_tbl) (hs : Cond.selects C y y ∈ ej_tbl) (hR : ej_RC H b C) (hn : as.length = n) (hst : st0 = as.reverse ++ .ref b :: rest) (h8 : (rest.map fun v => v.category).sum ≤ 8)
    (hc : ej_Ct y c2 n2 r2 d (.ref b :: as) H res1) (hok : res1.2.1.length = H.1.length ∨ (ls.all (fun q => ej_okv H.1.length q.2) = true ∧ rest.all (ej_okv H.1.length) = true))
    (k : ej_Z cc nL rt own nm (d + 1) (pc + 3) ls (res1.1.toList ++ rest) res1.2 res) : ej_Z cc nL rt own nm (d + 1) pc ls st0 H res := by
  subst hst
  refine z_callG hc.1 hok (fun p l e R s m args below meth c A D cy ad Hc locs cells slots mc ms lsc hC hT hz h1 h2 hsz hP hD hS hmc hms hc1 hs1 => ?_) k
  obtain ⟨hx, hb, hml, hr, hown, hts, hlk, hK, hA, hi9⟩ := id hC
  obtain ⟨m1, m2, m3, m4⟩ := hM
  have hMet := hc.2 l D cy ad Hc.size mc ms hmc hms
  rcases hL with h | ⟨host, h⟩
  · have cw : CallB R s args own idx y c2 n2 r2 (Cond.code y c2 n2 r2 :: ej_tbl) { frames := d, cells := mc, slots := ms, locals := 40 * d } mc ms n :=
      callB_of n hts (ej_goodIn m1) rfl rfl rfl (hts _ m2) (hts _ h) m3 ⟨h1, by dsimp only; omega⟩
    exact ⟨_, va_runV (As := as.map (ej_cv ad)) (rest := rest.map (ej_cv ad)) (b := ad b) ⟨hx, hb, hml, hown, hts⟩ hMet ⟨cw, hts _ hi, hts _ hs⟩ ⟨ej_blind, ej_recv hC hT hP hS hR, ej_at_call (as := .ref b :: as) hC hT hz hP hD hS⟩ rfl (by rw [List.length_map]; exact hn) hsz ej_rev (ej_room8 h8) hd ⟨hc1, hs1⟩⟩
  · have cw := va_cnB (R := R) (args := args) n hts (ej_goodIn m1) rfl (rm := { frames := d, cells := mc, slots := ms, locals := 40 * d }) (mc := mc) (ms := ms) rfl rfl (hT.2.2.2.2.2.2 _ h) (hts _ m2) m3 ⟨h1, by dsimp only; omega⟩
    exact ⟨_, va_runVN (As := as.map (ej_cv ad)) (rest := rest.map (ej_cv ad)) (b := ad b) ⟨hx, hb, hml, hown, hts⟩ hMet ⟨cw, hts _ hi, hts _ hs⟩ ⟨ej_blind, ej_recv hC hT hP hS hR, ej_at_call (as := .ref b :: as) hC hT hz hP hD hS⟩ rfl (by rw [List.length_map]; exact hn) hsz ej_rev (ej_room8 h8) hd ⟨hc1, hs1⟩⟩
theorem z_callI {y : MethodName} {c2 : ByteArray} {n2 n idx b : Nat} {as rest st0 : List Value} {res1 : Option Value × ej_H} (hd : decode cc pc = .ok (.invokespecial idx, 3)) (hL : ej_ML own idx y) (hM : ej_MF y c2 n2 none n) (hi : Cond.instanceMethod y ∈ ej_tbl) (hs : y.name = "<init>") (hn : as.length = n) (hst : st0 = as.reverse ++ .ref b :: rest) (h8 : (rest.map fun v => v.category).sum ≤ 8)
    (hc : ej_Ct y c2 n2 none d (.ref b :: as) H res1) (hok : res1.2.1.length = H.1.length ∨ (ls.all (fun q => ej_okv H.1.length q.2) = true ∧ rest.all (ej_okv H.1.length) = true))
    (k : ej_Z cc nL rt own nm (d + 1) (pc + 3) ls (res1.1.toList ++ rest) res1.2 res) : ej_Z cc nL rt own nm (d + 1) pc ls st0 H res := by
  subst hst
  refine z_callG hc.1 hok (fun p l e R s m args below meth c A D cy ad Hc locs cells slots mc ms lsc hC hT hz h1 h2 hsz hP hD hS hmc hms hc1 hs1 => ?_) k
  obtain ⟨hx, hb, hml, hr, hown, hts, hlk, hK, hA, hi9⟩ := id hC
  obtain ⟨m1, m2, m3, m4⟩ := hM
  have hMet := hc.2 l D cy ad Hc.size mc ms hmc hms
  rcases hL with h | ⟨host, h⟩
  · have cw : CallB R s args own idx y c2 n2 none (Cond.code y c2 n2 none :: ej_tbl) { frames := d, cells := mc, slots := ms, locals := 40 * d } mc ms n :=
      callB_of n hts (ej_goodIn m1) rfl rfl rfl (hts _ m2) (hts _ h) m3 ⟨h1, by dsimp only; omega⟩
    exact ⟨_, va_runI (As := as.map (ej_cv ad)) (rest := rest.map (ej_cv ad)) (b := ad b) ⟨hx, hb, hml, hown, hts⟩ hMet ⟨cw, hs, hts _ hi⟩ ⟨ej_blind, ej_at_call (as := .ref b :: as) hC hT hz hP hD hS⟩ rfl (by rw [List.length_map]; exact hn) hsz ej_rev (ej_room8 h8) hd ⟨hc1, hs1⟩⟩
  · have cw := va_cnB (R := R) (args := args) n hts (ej_goodIn m1) rfl (rm := { frames := d, cells := mc, slots := ms, locals := 40 * d }) (mc := mc) (ms := ms) rfl rfl (hT.2.2.2.2.2.2 _ h) (hts _ m2) m3 ⟨h1, by dsimp only; omega⟩
    exact ⟨_, va_runIN (As := as.map (ej_cv ad)) (rest := rest.map (ej_cv ad)) (b := ad b) ⟨hx, hb, hml, hown, hts⟩ hMet ⟨cw, hs, hts _ hi⟩ ⟨ej_blind, ej_at_call (as := .ref b :: as) hC hT hz hP hD hS⟩ rfl (by rw [List.length_map]; exact hn) hsz ej_rev (ej_room8 h8) hd ⟨hc1, hs1⟩⟩
/-- Object.<init>: nothing -/
theorem z_objInit {idx b : Nat} (hd : decode cc pc = .ok (.invokespecial idx, 3)) (hL : Cond.methodLink own idx objectInit ∈ ej_tbl) (hi : Cond.instanceMethod objectInit ∈ ej_tbl) (hc : Cond.code objectInit ⟨#[0xb1]⟩ 1 none ∈ ej_tbl) (h8 : (st.map fun v => v.category).sum ≤ 8) (k : ej_Z cc nL rt own nm (d + 1) (pc + 3) ls st H res) : ej_Z cc nL rt own nm (d + 1) pc ls (.ref b :: st) H res :=
  ⟨k.1, fun p l e R s m args below meth c A D cy ad Hc locs cells slots cells' slots' lsc Q hC hT hz h1 h2 h3 h4 h5 h6 hl hP hD hS hend => by
    obtain ⟨hx, hb, hml, hr, hown, hts, hlk, hK, hA, hi9⟩ := id hC
    have h8' := ej_room8 (m := m) (pc := pc) (lsc := lsc) (st0 := (Value.ref b :: st).map (ej_cv ad)) h8 (ad := ad)
    have e9 : ((st.map (ej_cv ad)).map fun v => v.category).sum = ((List.map (ej_cv ad) st).map fun v => v.category).sum := rfl
    refine W.objInit hx hb hown (hts _ hL) (hts _ hi) (hts _ hc) rfl (hl.1.trans hml.symm) rfl hd (by omega) (by omega) ?_
    exact k.2 p l e R s m args below meth c A D cy ad Hc locs cells slots cells' slots' lsc Q hC hT hz h1 h2 h3 h4 h5 h6 hl hP hD hS hend⟩
end EJ
