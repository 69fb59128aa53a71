def ej_ty (c : Nat) : Nat → FieldType := match c with
  | 0 => tyX0
  | 1 => tyX1
  | 2 => tyX2
  | 3 => tyX3
  | 4 => tyX4
  | 5 => tyX5
  | 6 => tyX6
  | 7 => tyX7
  | 8 => tyX8
  | 9 => tyX9
  | 10 => tyX10
  | _ => tyX11
-- the String constants: their bytes; where they are named (class, entry, text, place)
def ej_stx : List (List Int32) := [[119, 108, 114, 107, 110, 115], [40], [41], [33, 45], [124], [38], [60, 61, 62], [43, 45], [42, 47, 37], [63], [59]]
def ej_sts : List (String × Nat × String × Nat) := [("BothBeside$Law", 93, "wlrkns", 0), ("BothBeside$Law", 101, "(", 1), ("BothBeside$Law", 103, ")", 2), ("BothBeside$Law", 105, "!-", 3), ("BothBeside$Law", 73, "|", 4), ("BothBeside$Law", 75, "&", 5), ("BothBeside$Law", 77, "<=>", 6), ("BothBeside$Law", 79, "+-", 7), ("BothBeside$Law", 81, "*/%", 8), ("BothBeside$Law", 59, "?", 9), ("BothBeside$Law", 42, ";", 10)]
/-! THE STATE: a shape (cells by places: kind, size, references), ints and longs by place and slot; places from 1000 on are cells that nobody writes -/
abbrev ej_S : Type := List (Nat × Nat × List (Option Nat))
abbrev ej_M : Type := (Nat → Nat → Int32) × (Nat → Nat → Int64)
abbrev ej_H : Type := ej_S × ej_M
def ej_cv (ad : Nat → Nat) (v : Value) : Value := match v with
  | .ref k => .ref (ad k)
  | v => v
theorem ej_cv_cat (ad : Nat → Nat) (v : Value) : (ej_cv ad v).category = v.category := by cases v <;> rfl
def ej_isR (ty : FieldType) : Bool := match ty with
  | .object _ => true
  | .array _ => true
  | _ => false
def ej_fv (ad : Nat → Nat) (ty : FieldType) (i : Int32) (r : Option Nat) : Value := if ej_isR ty = true then va_rf (r.map ad) else .int i
def ej_fs (ad : Nat → Nat) (c N : Nat) (I : Nat → Int32) (rs : List (Option Nat)) : List Value := (List.range N).map fun j => ej_fv ad (ej_ty c j) (I j) (rs.getD j none)
def ej_e (cy : Nat → ClassId) (ad : Nat → Nat) (M : ej_M) (k : Nat) (x : Nat × Nat × List (Option Nat)) : va_E :=
  if x.1 < 50 then .inr (x.1, ej_fs ad x.1 x.2.1 (M.1 k) x.2.2)
  else if x.1 = 53 then .inl (cy 3, x.2.1, .inr (.inl (M.2 k)))
  else .inl (cy (x.1 - 50), x.2.1, .inl (M.1 k))
def ej_ws (cy : Nat → ClassId) (ad : Nat → Nat) (H : ej_H) : va_W := H.1.mapIdx fun k x => (ad k, ej_e cy ad H.2 k x)
def ej_tys (cy : Nat → ClassId) : List (ClassId × FieldType) := [(cy 0, .int), (cy 1, .byte), (cy 2, .short), (cy 3, .long)]
def ej_ns (S : ej_S) : Nat := (S.map fun x => x.2.1).sum
def ej_PR (H H' : ej_H) : Prop := H.1.length ≤ H'.1.length ∧ ej_ns H.1 ≤ ej_ns H'.1 ∧ (H.1.length ≤ 1000 → H'.1.length ≤ 1000 ∧ ∀ a, 1000 ≤ a → H'.2.1 a = H.2.1 a)
theorem ej_PR.rf {H : ej_H} : ej_PR H H := ⟨Nat.le_refl _, Nat.le_refl _, fun h => ⟨h, fun _ _ => rfl⟩⟩
theorem ej_PR.tr {H1 H2 H3 : ej_H} (a : ej_PR H1 H2) (b : ej_PR H2 H3) : ej_PR H1 H3 := ⟨Nat.le_trans a.1 b.1, Nat.le_trans a.2.1 b.2.1, fun h => ⟨(b.2.2 (a.2.2 h).1).1, fun q hq => ((b.2.2 (a.2.2 h).1).2 q hq).trans ((a.2.2 h).2 q hq)⟩⟩
-- arrays: those of the shape, and those that nobody writes
def ej_sl (i : Nat) : Nat := (ej_stx.getD i []).length
def ej_sa (I : Nat → Nat → Int32) (a : Nat) : Option (Nat × Nat) := if a = 1000 then some (0, 8) else if a = 1001 then some (0, 32) else if a = 4000 then some (0, (I 4001 0).toNatClampNeg) else if 3000 ≤ a ∧ a < 3000 + ej_stx.length then some (1, ej_sl (a - 3000)) else none
def ej_al (H : ej_H) (a : Nat) : Option (Nat × Nat) := match H.1[a]? with
  | some x => if 50 ≤ x.1 then some (x.1 - 50, x.2.1) else none
  | none => if a < 1000 then none else ej_sa H.2.1 a
def ej_at (t : Nat) : FieldType := match t with
  | 0 => .int
  | 1 => .byte
  | 2 => .short
  | _ => .long
/-- links of nest mates' private members: they are carried along beside the tables' words -/
def ej_isN (w : Cond) : Bool := match w with
  | .fieldLinkNest _ _ _ _ _ _ => true
  | .methodLinkNest _ _ _ _ => true
  | _ => false
def ej_nst : List Cond := lw_tbl.filter ej_isN
theorem ej_nw_warm {w : Cond} {s U : State} (h : ej_isN w = true) (hW : s.WarmedH U.vm) (hz : va_Nw w s) : va_Nw w U := by
  cases w with
  | fieldLinkNest a b c d e f => exact va_Nw.warmF hW hz
  | methodLinkNest a b c d => exact va_Nw.warmM hW hz
  | _ => cases h
theorem ej_nw_tab {w : Cond} (h : ej_isN w = true) : w.onTables = true := by
  cases w with
  | fieldLinkNest a b c d e f => rfl
  | methodLinkNest a b c d => rfl
  | _ => cases h
def ej_ST (I : Nat → Nat → Int32) (ad : Nat → Nat) (A : Nat → Prop) (U : State) (H : Heap) : Prop :=
  va_Z "BothBeside$Acts" "ABOVE" "[I" (.ref (ad 1000)) A U H ∧ va_Z "BothBeside$Acts" "NUMBERS" "[I" (.ref (ad 1001)) A U H ∧ va_Z "java/lang/String" "COMPACT_STRINGS" "Z" (.int 1) A U H ∧
  (∀ a t n, 1000 ≤ a → ej_sa I a = some (t, n) → va_T (ej_at t) (ad a) n (fun j => .int (I a j)) A U H) ∧
  vk_S ej_stx.length (ej_stx.map List.length) ej_stx (fun i => ad (2000 + i)) (fun i => ad (3000 + i)) A U H ∧
  (∀ q ∈ ej_sts, vk_R q.1 q.2.1 q.2.2.1 (ad (2000 + q.2.2.2)) U) ∧ ∀ w ∈ ej_nst, va_Nw w U
theorem ej_sa_congr {I I' : Nat → Nat → Int32} (h : ∀ a, 1000 ≤ a → I' a = I a) (a : Nat) : ej_sa I' a = ej_sa I a := by
  unfold ej_sa
  rw [h 4001 (by decide)]
theorem ej_ST.congr {I I' : Nat → Nat → Int32} {ad : Nat → Nat} {A : Nat → Prop} {U : State} {H : Heap} (h : ∀ a, 1000 ≤ a → I' a = I a) (hs : ej_ST I ad A U H) : ej_ST I' ad A U H := by
  obtain ⟨a1, a2, a3, a4, a5, a6, a7⟩ := hs
  refine ⟨a1, a2, a3, fun a t n ha hsa => ?_, a5, a6, a7⟩
  rw [h a ha]
  exact a4 a t n ha (by rw [← ej_sa_congr h]; exact hsa)
theorem ej_ST.ads {I : Nat → Nat → Int32} {ad ad' : Nat → Nat} {A : Nat → Prop} {U : State} {H : Heap} (h : ∀ a, 1000 ≤ a → ad' a = ad a) (hs : ej_ST I ad A U H) : ej_ST I ad' A U H := by
  obtain ⟨a1, a2, a3, a4, a5, a6, a7⟩ := hs
  refine ⟨by rw [h 1000 (by decide)]; exact a1, by rw [h 1001 (by decide)]; exact a2, a3, fun a t n ha hsa => by rw [h a ha]; exact a4 a t n ha hsa, ?_, fun q hq => by rw [h _ (by omega)]; exact a6 q hq, a7⟩
  have e1 : (fun i => ad' (2000 + i)) = fun i => ad (2000 + i) := funext fun i => h _ (by omega)
  have e2 : (fun i => ad' (3000 + i)) = fun i => ad (3000 + i) := funext fun i => h _ (by omega)
  rw [e1, e2]
  exact a5
theorem ej_ST.narrow {I : Nat → Nat → Int32} {ad : Nat → Nat} {A B : Nat → Prop} {U : State} {H : Heap} (hAB : ∀ q, B q → A q) (hs : ej_ST I ad A U H) : ej_ST I ad B U H := by
  obtain ⟨a1, a2, a3, a4, a5, a6, a7⟩ := hs
  exact ⟨a1.narrow hAB, a2.narrow hAB, a3.narrow hAB, fun a t n ha hsa => (a4 a t n ha hsa).narrow hAB, a5.narrow hAB, a6, a7⟩
theorem ej_ST.kept {I : Nat → Nat → Int32} {ad : Nat → Nat} {A : Nat → Prop} {U : State} {H H1 : Heap} (hq : ∀ a : Nat, a < H.size → ¬ A a → H1[a]? = H[a]?) (hs : ej_ST I ad A U H) : ej_ST I ad A U H1 := by
  obtain ⟨a1, a2, a3, a4, a5, a6, a7⟩ := hs
  exact ⟨a1.kept hq, a2.kept hq, a3.kept hq, fun a t n ha hsa => (a4 a t n ha hsa).kept hq, a5.kept hq, a6, a7⟩
theorem ej_ST.warm {I : Nat → Nat → Int32} {ad : Nat → Nat} {A : Nat → Prop} {u U : State} {H : Heap} (hW : u.WarmedH U.vm) (hs : ej_ST I ad A u H) : ej_ST I ad A U H := by
  obtain ⟨a1, a2, a3, a4, a5, a6, a7⟩ := hs
  exact ⟨a1.moved hW.alike, a2.moved hW.alike, a3.moved hW.alike, fun a t n ha hsa => (a4 a t n ha hsa).moved hW.alike, a5.moved hW.alike, fun q hq => (a6 q hq).warm hW, fun w hw => ej_nw_warm (List.mem_filter.mp hw).2 hW (a7 w hw)⟩
theorem ej_ST.same {I : Nat → Nat → Int32} {ad : Nat → Nat} {A : Nat → Prop} {u U : State} {H : Heap} (hv : U.vm = u.vm) (hs : ej_ST I ad A u H) : ej_ST I ad A U H := by
  obtain ⟨a1, a2, a3, a4, a5, a6, a7⟩ := hs
  have hW : u.vm.Alike U.vm := by rw [hv]; exact Vm.Alike.refl _
  exact ⟨a1.moved hW, a2.moved hW, a3.moved hW, fun a t n ha hsa => (a4 a t n ha hsa).moved hW, a5.moved hW, fun q hq => (a6 q hq).same hv, fun w hw => va_Nw.same (ej_nw_tab (List.mem_filter.mp hw).2) hv.symm (a7 w hw)⟩
-- the world's cells
theorem ej_ws_at {cy : Nat → ClassId} {ad : Nat → Nat} {H : ej_H} (k : Nat) : (ej_ws cy ad H)[k]? = (H.1[k]?).map fun x => (ad k, ej_e cy ad H.2 k x) := by
  unfold ej_ws
  rw [List.getElem?_mapIdx]
theorem ej_ws_len {cy : Nat → ClassId} {ad : Nat → Nat} {H : ej_H} : (ej_ws cy ad H).length = H.1.length := by
  unfold ej_ws
  rw [List.length_mapIdx]
/-- a step from ad to another that agrees on the shape's places and on what the shape holds -/
def ej_okr (n : Nat) (r : Option Nat) : Bool := match r with
  | some a => decide (a < n)
  | none => true
def ej_okS (n : Nat) (S : ej_S) : Bool := S.all fun x => x.2.2.all (ej_okr n)
def ej_okv (n : Nat) (v : Value) : Bool := match v with
  | .ref a => decide (a < n) || decide (1000 ≤ a)
  | _ => true
theorem ej_cv_ok {n : Nat} {ad ad' : Nat → Nat} (h : ∀ k, k < n ∨ 1000 ≤ k → ad' k = ad k) {v : Value} (hv : ej_okv n v = true) : ej_cv ad' v = ej_cv ad v := by
  cases v with
  | ref a =>
    show Value.ref (ad' a) = Value.ref (ad a)
    rw [h a (by simpa [ej_okv] using hv)]
  | _ => rfl
theorem ej_cvs_ok {n : Nat} {ad ad' : Nat → Nat} (h : ∀ k, k < n ∨ 1000 ≤ k → ad' k = ad k) {st : List Value} (hv : st.all (ej_okv n) = true) : st.map (ej_cv ad') = st.map (ej_cv ad) :=
  List.map_congr_left fun v hm => ej_cv_ok h (List.all_eq_true.mp hv v hm)
theorem ej_ls_ok {n : Nat} {ad ad' : Nat → Nat} (h : ∀ k, k < n ∨ 1000 ≤ k → ad' k = ad k) {ls : List (Nat × Value)} (hv : ls.all (fun q => ej_okv n q.2) = true) : ls.map (fun q => (q.1, ej_cv ad' q.2)) = ls.map (fun q => (q.1, ej_cv ad q.2)) :=
  List.map_congr_left fun q hm => by rw [ej_cv_ok h (List.all_eq_true.mp hv q hm)]
theorem ej_e_ok {n : Nat} {cy : Nat → ClassId} {ad ad' : Nat → Nat} (h : ∀ k, k < n → ad' k = ad k) {M : ej_M} {k : Nat} {x : Nat × Nat × List (Option Nat)} (hx : x.2.2.all (ej_okr n) = true) : ej_e cy ad' M k x = ej_e cy ad M k x := by
  unfold ej_e
  by_cases h1 : x.1 < 50
  · rw [if_pos h1, if_pos h1]
    congr 2
    unfold ej_fs
    refine List.map_congr_left fun j _ => ?_
    unfold ej_fv
    by_cases h2 : ej_isR (ej_ty x.1 j) = true
    · rw [if_pos h2, if_pos h2]
      congr 1
      cases hr : x.2.2.getD j none with
      | none => rfl
      | some a =>
        have hm : some a ∈ x.2.2 := by
          rw [List.getD_eq_getElem?_getD] at hr
          cases hg : x.2.2[j]? with
          | none => rw [hg] at hr; cases hr
          | some z => rw [hg] at hr; cases hr; exact List.mem_of_getElem? hg
        have := List.all_eq_true.mp hx _ hm
        simp only [Option.map_some]
        rw [h a (by simpa [ej_okr] using this)]
    · rw [if_neg h2, if_neg h2]
  · rw [if_neg h1, if_neg h1]
theorem ej_ws_ok {n : Nat} {cy : Nat → ClassId} {ad ad' : Nat → Nat} {H : ej_H} (h : ∀ k, k < n → ad' k = ad k) (hn : H.1.length ≤ n) (hS : ej_okS n H.1 = true) : ej_ws cy ad' H = ej_ws cy ad H := by
  apply List.ext_getElem?
  intro k
  rw [ej_ws_at, ej_ws_at]
  cases hx : H.1[k]? with
  | none => rfl
  | some x =>
    have hk : k < H.1.length := (List.getElem?_eq_some_iff.mp hx).1
    have hm := List.all_eq_true.mp hS x (List.mem_of_getElem? hx)
    simp only [Option.map_some]
    rw [h k (by omega), ej_e_ok h hm]
-- the tables' words that hold for every caller
def ej_tbl : List Cond := lw_tbl.filter goodWord
theorem ej_sub1 : ∀ w ∈ tables_1_1, w ∈ lw_tbl := fun w h => List.mem_append_right _ (List.mem_append_left _ h)
theorem ej_in1 {w : Cond} (i : Nat) (h : tables_1_1[i]? = some w) (g : goodWord w = true) : w ∈ ej_tbl := List.mem_filter.mpr ⟨ej_sub1 w (List.mem_of_getElem? h), g⟩
theorem ej_nn1 {w : Cond} (i : Nat) (h : tables_1_1[i]? = some w) (g : ej_isN w = true) : w ∈ ej_nst := List.mem_filter.mpr ⟨ej_sub1 w (List.mem_of_getElem? h), g⟩
theorem ej_sub2 : ∀ w ∈ tables_1_2, w ∈ lw_tbl := fun w h => List.mem_append_right _ (List.mem_append_right _ (List.mem_append_left _ h))
theorem ej_in2 {w : Cond} (i : Nat) (h : tables_1_2[i]? = some w) (g : goodWord w = true) : w ∈ ej_tbl := List.mem_filter.mpr ⟨ej_sub2 w (List.mem_of_getElem? h), g⟩
theorem ej_nn2 {w : Cond} (i : Nat) (h : tables_1_2[i]? = some w) (g : ej_isN w = true) : w ∈ ej_nst := List.mem_filter.mpr ⟨ej_sub2 w (List.mem_of_getElem? h), g⟩
theorem ej_sub3 : ∀ w ∈ tables_1_3, w ∈ lw_tbl := fun w h => List.mem_append_right _ (List.mem_append_right _ (List.mem_append_right _ (List.mem_append_left _ h)))
theorem ej_in3 {w : Cond} (i : Nat) (h : tables_1_3[i]? = some w) (g : goodWord w = true) : w ∈ ej_tbl := List.mem_filter.mpr ⟨ej_sub3 w (List.mem_of_getElem? h), g⟩
theorem ej_nn3 {w : Cond} (i : Nat) (h : tables_1_3[i]? = some w) (g : ej_isN w = true) : w ∈ ej_nst := List.mem_filter.mpr ⟨ej_sub3 w (List.mem_of_getElem? h), g⟩
theorem ej_sub4 : ∀ w ∈ tables_1_4, w ∈ lw_tbl := fun w h => List.mem_append_right _ (List.mem_append_right _ (List.mem_append_right _ (List.mem_append_right _ (List.mem_append_left _ h))))
theorem ej_in4 {w : Cond} (i : Nat) (h : tables_1_4[i]? = some w) (g : goodWord w = true) : w ∈ ej_tbl := List.mem_filter.mpr ⟨ej_sub4 w (List.mem_of_getElem? h), g⟩
theorem ej_nn4 {w : Cond} (i : Nat) (h : tables_1_4[i]? = some w) (g : ej_isN w = true) : w ∈ ej_nst := List.mem_filter.mpr ⟨ej_sub4 w (List.mem_of_getElem? h), g⟩
theorem ej_sub5 : ∀ w ∈ tables_1_5, w ∈ lw_tbl := fun w h => List.mem_append_right _ (List.mem_append_right _ (List.mem_append_right _ (List.mem_append_right _ (List.mem_append_right _ (List.mem_append_left _ h)))))
theorem ej_in5 {w : Cond} (i : Nat) (h : tables_1_5[i]? = some w) (g : goodWord w = true) : w ∈ ej_tbl := List.mem_filter.mpr ⟨ej_sub5 w (List.mem_of_getElem? h), g⟩
theorem ej_nn5 {w : Cond} (i : Nat) (h : tables_1_5[i]? = some w) (g : ej_isN w = true) : w ∈ ej_nst := List.mem_filter.mpr ⟨ej_sub5 w (List.mem_of_getElem? h), g⟩
theorem ej_sub6 : ∀ w ∈ tables_1_6, w ∈ lw_tbl := fun w h => List.mem_append_right _ (List.mem_append_right _ (List.mem_append_right _ (List.mem_append_right _ (List.mem_append_right _ (List.mem_append_right _ (List.mem_append_left _ h))))))
theorem ej_in6 {w : Cond} (i : Nat) (h : tables_1_6[i]? = some w) (g : goodWord w = true) : w ∈ ej_tbl := List.mem_filter.mpr ⟨ej_sub6 w (List.mem_of_getElem? h), g⟩
theorem ej_nn6 {w : Cond} (i : Nat) (h : tables_1_6[i]? = some w) (g : ej_isN w = true) : w ∈ ej_nst := List.mem_filter.mpr ⟨ej_sub6 w (List.mem_of_getElem? h), g⟩
theorem ej_sub7 : ∀ w ∈ tables_1_7, w ∈ lw_tbl := fun w h => List.mem_append_right _ (List.mem_append_right _ (List.mem_append_right _ (List.mem_append_right _ (List.mem_append_right _ (List.mem_append_right _ (List.mem_append_right _ (h)))))))
theorem ej_in7 {w : Cond} (i : Nat) (h : tables_1_7[i]? = some w) (g : goodWord w = true) : w ∈ ej_tbl := List.mem_filter.mpr ⟨ej_sub7 w (List.mem_of_getElem? h), g⟩
theorem ej_nn7 {w : Cond} (i : Nat) (h : tables_1_7[i]? = some w) (g : ej_isN w = true) : w ∈ ej_nst := List.mem_filter.mpr ⟨ej_sub7 w (List.mem_of_getElem? h), g⟩
theorem ej_in0 {w : Cond} (i : Nat) (h : (k2_sels lw_privs)[i]? = some w) (g : goodWord w = true) : w ∈ ej_tbl := List.mem_filter.mpr ⟨List.mem_append_left _ (List.mem_of_getElem? h), g⟩
