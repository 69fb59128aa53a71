/-! cells: reads, writes -/
def ej_w (M : ej_M) (a i : Nat) (v : Int32) : ej_M := (fun b => if b = a then upd (M.1 b) i v else M.1 b, M.2)
def ej_wl (M : ej_M) (a i : Nat) (v : Int64) : ej_M := (M.1, fun b => if b = a then vp_updL (M.2 b) i v else M.2 b)
def ej_z (M : ej_M) (a : Nat) : ej_M := (fun b => if b = a then fun _ => 0 else M.1 b, fun b => if b = a then fun _ => 0 else M.2 b)
/-- class c of N fields, as the tables have it; a field's link -/
def ej_CL (c N : Nat) (C : String) (T : u_T) : Prop := vwCl[c]? = some (C, T, N) ∧ c < 50 ∧ (∀ w ∈ u_ws C T N, w ∈ ej_tbl) ∧ (∀ k, k < N → parseFieldDescriptor (T k).2.2.1 = some (ej_ty c k)) ∧ ∀ a, a < N → ∀ b, b < N → a ≠ b → (T a).2.1 ≠ (T b).2.1
def ej_FL (own : String) (idx c j N : Nat) (f : Bool) : Prop := ∃ C T, ej_CL c N C T ∧ j < N ∧ (T j).2.2.2 = f ∧ (Cond.fieldLink own idx (T j).1 (T j).2.1 (T j).2.2.1 ∈ ej_tbl ∨ ∃ host, Cond.fieldLinkNest own idx (T j).1 (T j).2.1 (T j).2.2.1 host ∈ ej_nst)
/-- the class's own final field: a constructor may write it -/
def ej_FO (own : String) (idx c j N : Nat) : Prop := ∃ C T, ej_CL c N C T ∧ j < N ∧ (T j).2.2.2 = true ∧ (T j).1 = own ∧ Cond.fieldLink own idx (T j).1 (T j).2.1 (T j).2.2.1 ∈ ej_tbl
section EJ
variable {cc : ByteArray} {nL : Nat} {rt : Option FieldType} {own nm : String} {d pc : Nat} {ls : List (Nat × Value)} {st : List Value} {H : ej_H} {res : Option Value × ej_H}
theorem ej_fs_at {ad : Nat → Nat} {c N j : Nat} {I : Nat → Int32} {rs : List (Option Nat)} (hj : j < N) : (ej_fs ad c N I rs)[j]? = some (ej_fv ad (ej_ty c j) (I j) (rs.getD j none)) := by
  unfold ej_fs
  rw [List.getElem?_map, List.getElem?_range hj]; rfl
theorem ej_fs_len {ad : Nat → Nat} {c N : Nat} {I : Nat → Int32} {rs : List (Option Nat)} : (ej_fs ad c N I rs).length = N := by simp [ej_fs]
theorem ej_ws_obj {cy : Nat → ClassId} {ad : Nat → Nat} {a c N : Nat} {rs : List (Option Nat)} (ha : H.1[a]? = some (c, N, rs)) (h50 : c < 50) : (ej_ws cy ad H)[a]? = some (ad a, .inr (c, ej_fs ad c N (H.2.1 a) rs)) := by
  rw [ej_ws_at, ha]
  simp [ej_e, h50]
theorem ej_ws_arr {cy : Nat → ClassId} {ad : Nat → Nat} {a t n : Nat} {rs : List (Option Nat)} (ha : H.1[a]? = some (50 + t, n, rs)) (ht : t ≠ 3) : (ej_ws cy ad H)[a]? = some (ad a, .inl (cy t, n, .inl (H.2.1 a))) := by
  rw [ej_ws_at, ha]
  have h1 : ¬ 50 + t < 50 := by omega
  have h2 : ¬ 50 + t = 53 := by omega
  simp only [Option.map_some, ej_e, if_neg h1, if_neg h2]
  rw [show 50 + t - 50 = t by omega]
theorem ej_ws_arl {cy : Nat → ClassId} {ad : Nat → Nat} {a n : Nat} {rs : List (Option Nat)} (ha : H.1[a]? = some (53, n, rs)) : (ej_ws cy ad H)[a]? = some (ad a, .inl (cy 3, n, .inr (.inl (H.2.2 a)))) := by
  rw [ej_ws_at, ha]
  simp [ej_e]
theorem ej_wget {p : Program} {l : Launch} {e : Env} {R : Room} {s : State} {m : MethodId} {args : Array Value} {below : List Frame} {meth : Method} {c0 : Code} {A : Nat → Prop} {D : va_G} {cy : Nat → ClassId} {ad : Nat → Nat} {Hc : Heap} {locs : List Loc} {cells slots : Nat} {lsc : Array Slot} {Q : State → Prop} {rest : List Value} {a c j N idx : Nat} {rs : List (Option Nat)} {f : Bool}
    (hC : ej_C cc nL rt own nm p s m args meth c0 A D cy) (hT : ej_ST H.2.1 ad A s s.heap) (hd : decode cc pc = .ok (.getfield idx, 3)) (hL : ej_FL own idx c j N f) (ha : H.1[a]? = some (c, N, rs)) (hP : va_P D vwCl (ej_ws cy ad H) Hc)
    (kk : W p l e R s m args below meth c0 Hc locs cells slots Q (F0 m (pc + 3) lsc (ej_fv ad (ej_ty c j) (H.2.1 a j) (rs.getD j none) :: rest))) : W p l e R s m args below meth c0 Hc locs cells slots Q (F0 m pc lsc (.ref (ad a) :: rest)) := by
  obtain ⟨hx, hb, hml, hr, hown, hts, hlk, hK, hA, hin⟩ := hC
  obtain ⟨C, T, ⟨hc, h50, hw, hpt, hnm⟩, hj, hf, hl⟩ := hL
  rcases hl with h | ⟨host, h⟩
  · exact va_get hx hb hts hw hown hK hP a (ej_ws_obj ha h50) hc j hj (hts _ h) (fun _ h9 => h9) (ej_fs_at hj) hd kk
  · exact va_getN hx hb hts hw hown hK hP a (ej_ws_obj ha h50) hc j hj (va_Nw.use rfl (hT.2.2.2.2.2.2 _ h)) (fun _ h9 => h9) (ej_fs_at hj) hd kk
theorem z_getI {a c j N idx : Nat} {rs : List (Option Nat)} {f : Bool} (hd : decode cc pc = .ok (.getfield idx, 3)) (hL : ej_FL own idx c j N f) (ha : H.1[a]? = some (c, N, rs)) (hty : ej_isR (ej_ty c j) = false) (k : ej_Z cc nL rt own nm d (pc + 3) ls (.int (H.2.1 a j) :: st) H res) : ej_Z cc nL rt own nm d pc ls (.ref a :: st) H res :=
  z_lift (fun _ _ _ _ _ _ _ _ _ _ _ _ _ _ _ _ _ _ _ _ hC hT hl hP _ kk => ej_wget hC hT hd hL ha hP (by
    have h := kk _ hl
    unfold ej_fv
    rw [hty]
    exact h)) k
theorem z_getR {a b c j N idx : Nat} {rs : List (Option Nat)} {f : Bool} (hd : decode cc pc = .ok (.getfield idx, 3)) (hL : ej_FL own idx c j N f) (ha : H.1[a]? = some (c, N, rs)) (hty : ej_isR (ej_ty c j) = true) (hb : rs.getD j none = some b) (k : ej_Z cc nL rt own nm d (pc + 3) ls (.ref b :: st) H res) : ej_Z cc nL rt own nm d pc ls (.ref a :: st) H res :=
  z_lift (fun _ _ _ _ _ _ _ _ _ _ _ _ _ _ _ _ _ _ _ _ hC hT hl hP _ kk => ej_wget hC hT hd hL ha hP (by
    have h := kk _ hl
    unfold ej_fv
    rw [hty, hb]
    exact h)) k
/-- a row that writes into a cell of the shape -/
theorem z_upd {pc' : Nat} {st' st0 : List Value} {H1 : ej_H} (hlen : H1.1.length = H.1.length) (hns : ej_ns H1.1 = ej_ns H.1) (hI : H.1.length ≤ 1000 → ∀ a, 1000 ≤ a → H1.2.1 a = H.2.1 a)
    (h : ∀ (p : Program) (l : Launch) (e : Env) (R : Room) (s : State) (m : MethodId) (args : Array Value) (below : List Frame) (meth : Method) (c : Code) (A : Nat → Prop) (D : va_G) (cy : Nat → ClassId) (ad : Nat → Nat) (Hc : Heap) (locs : List Loc) (cells slots : Nat) (lsc : Array Slot) (Q : State → Prop),
      ej_C cc nL rt own nm p s m args meth c A D cy → ej_ST H.2.1 ad A s s.heap → va_P D vwCl (ej_ws cy ad H) Hc → va_D A (ej_ws cy ad H) → va_S A s.heap Hc locs →
      (∀ (Hc1 : Heap) (locs1 : List Loc), va_P D vwCl (ej_ws cy ad H1) Hc1 → va_D A (ej_ws cy ad H1) → va_S A s.heap Hc1 locs1 → W p l e R s m args below meth c Hc1 locs1 cells slots Q (F0 m pc' lsc (st'.map (ej_cv ad)))) → W p l e R s m args below meth c Hc locs cells slots Q (F0 m pc lsc (st0.map (ej_cv ad))))
    (k : ej_Z cc nL rt own nm d pc' ls st' H1 res) : ej_Z cc nL rt own nm d pc ls st0 H res := by
  refine ⟨?_, fun p l e R s m args below meth c A D cy ad Hc locs cells slots cells' slots' lsc Q hC hT hz h1 h2 h3 h4 h5 h6 hl hP hD hS hend =>
    h p l e R s m args below meth c A D cy ad Hc locs cells slots lsc Q hC hT hP hD hS fun Hc1 locs1 hP1 hD1 hS1 => k.2 p l e R s m args below meth c A D cy ad Hc1 locs1 cells slots cells' slots' lsc Q hC (hT.congr (hI hz)) (by omega) h1 h2 (by omega) (by omega) h5 h6 hl hP1 hD1 hS1 fun ad' Hc' locs' lsc' pc' ha => hend ad' Hc' locs' lsc' pc' fun k hk => ha k (by omega)⟩
  obtain ⟨a1, a2, a3⟩ := k.1
  exact ⟨by omega, by omega, fun hz => ⟨(a3 (by omega)).1, fun a ha => ((a3 (by omega)).2 a ha).trans (hI hz a ha)⟩⟩
theorem ej_w_ge {M : ej_M} {a i : Nat} {v : Int32} {n : Nat} (ha : a < n) (hn : n ≤ 1000) : ∀ b, 1000 ≤ b → (ej_w M a i v).1 b = M.1 b := fun b hb => if_neg (by omega)
theorem ej_lt {S : ej_S} {a : Nat} {x : Nat × Nat × List (Option Nat)} (h : S[a]? = some x) : a < S.length := (List.getElem?_eq_some_iff.mp h).1
theorem ej_fs_setI {ad : Nat → Nat} {c N j : Nat} {I : Nat → Int32} {rs : List (Option Nat)} {v : Int32} (hty : ej_isR (ej_ty c j) = false) : (ej_fs ad c N I rs).set j (.int v) = ej_fs ad c N (upd I j v) rs := by
  apply List.ext_getElem?
  intro k
  rw [List.getElem?_set, ej_fs_len]
  by_cases hk : k < N
  · by_cases hjk : j = k
    · subst hjk
      rw [if_pos rfl, if_pos hk, ej_fs_at hk]
      simp [ej_fv, hty, upd]
    · rw [if_neg hjk, ej_fs_at hk, ej_fs_at hk]
      simp [upd, show ¬ k = j from fun q => hjk q.symm]
  · have e1 : (ej_fs ad c N I rs)[k]? = none := List.getElem?_eq_none (by rw [ej_fs_len]; omega)
    have e2 : (ej_fs ad c N (upd I j v) rs)[k]? = none := List.getElem?_eq_none (by rw [ej_fs_len]; omega)
    rw [e1, e2]
    by_cases hjk : j = k
    · rw [if_pos hjk, if_neg (by omega)]
    · rw [if_neg hjk]
/-- the world with one cell of the shape changed -/
theorem ej_ws_set {cy : Nat → ClassId} {ad : Nat → Nat} {a : Nat} {H1 : ej_H} {e : va_E} {x : Nat × Nat × List (Option Nat)} (hlen : H1.1.length = H.1.length) (ha : H1.1[a]? = some x) (he : ej_e cy ad H1.2 a x = e)
    (ho : ∀ b y, b ≠ a → H.1[b]? = some y → H1.1[b]? = some y ∧ ej_e cy ad H1.2 b y = ej_e cy ad H.2 b y) : (ej_ws cy ad H).set a (ad a, e) = ej_ws cy ad H1 := by
  apply List.ext_getElem?
  intro k
  rw [List.getElem?_set, ej_ws_len, ej_ws_at, ej_ws_at]
  have hal := ej_lt ha
  by_cases hk : a = k
  · subst hk
    rw [if_pos rfl, if_pos (by omega), ha, Option.map_some, he]
  · rw [if_neg hk]
    cases hx : H.1[k]? with
    | none =>
      have : H1.1[k]? = none := List.getElem?_eq_none (by have := List.getElem?_eq_none_iff.mp hx; omega)
      rw [this]; rfl
    | some y =>
      obtain ⟨e1, e2⟩ := ho k y (fun q => hk q.symm) hx
      rw [e1, Option.map_some, Option.map_some, e2]
theorem ej_e_w {cy : Nat → ClassId} {ad : Nat → Nat} {M : ej_M} {a i b : Nat} {v : Int32} {y : Nat × Nat × List (Option Nat)} (hb : b ≠ a) : ej_e cy ad (ej_w M a i v) b y = ej_e cy ad M b y := by
  unfold ej_e ej_w
  simp only [if_neg hb]
theorem ej_e_wl {cy : Nat → ClassId} {ad : Nat → Nat} {M : ej_M} {a i b : Nat} {v : Int64} {y : Nat × Nat × List (Option Nat)} (hb : b ≠ a) : ej_e cy ad (ej_wl M a i v) b y = ej_e cy ad M b y := by
  unfold ej_e ej_wl
  simp only [if_neg hb]
theorem z_putI {a c j N idx : Nat} {rs : List (Option Nat)} {v : Int32} (hd : decode cc pc = .ok (.putfield idx, 3)) (hL : ej_FL own idx c j N false) (ha : H.1[a]? = some (c, N, rs)) (hty : ej_isR (ej_ty c j) = false) (hn : narrow (ej_ty c j) (.int v) = .int v) (hf : fits (ej_ty c j) (.int v) = true) (k : ej_Z cc nL rt own nm d (pc + 3) ls st (H.1, ej_w H.2 a j v) res) : ej_Z cc nL rt own nm d pc ls (.int v :: .ref a :: st) H res := by
  refine z_upd (H1 := (H.1, ej_w H.2 a j v)) rfl rfl (fun hz => ej_w_ge (ej_lt ha) hz) (fun p l e R s m args below meth c0 A D cy ad Hc locs cells slots lsc Q hC hT hP hD hS kk => ?_) k
  obtain ⟨hx, hb, hml, hr, hown, hts, hlk, hK, hA, hin⟩ := hC
  obtain ⟨C, T, ⟨hc, h50, hw, hpt, hnm⟩, hj, hf', hl⟩ := hL
  have hset : (ej_ws cy ad H).set a (ad a, .inr (c, (ej_fs ad c N (H.2.1 a) rs).set j (.int v))) = ej_ws cy ad (H.1, ej_w H.2 a j v) := by
    refine ej_ws_set (H1 := (H.1, ej_w H.2 a j v)) (x := (c, N, rs)) rfl ha ?_ fun b y hb hy => ⟨hy, ej_e_w hb⟩
    rw [ej_fs_setI hty]
    simp [ej_e, h50, ej_w]
  rcases hl with h | ⟨host, h⟩
  · refine va_put hx hb hts hw (ej_ty c) hpt hnm hown hK hP hD hS a (ej_ws_obj ha h50) hc j hj (hts _ h) (fun _ h9 => h9) hf' (hpt j hj) hn hf (by rw [ej_fs_len]; exact hj) hd fun H1 locs1 hP1 hD1 hS1 => ?_
    exact kk H1 locs1 ((congrArg (fun w => va_P D vwCl w H1) hset).mp hP1) ((congrArg (fun w => va_D A w) hset).mp hD1) hS1
  · refine va_putN hx hb hts hw (ej_ty c) hpt hnm hown hK hP hD hS a (ej_ws_obj ha h50) hc j hj (va_Nw.use rfl (hT.2.2.2.2.2.2 _ h)) (fun _ h9 => h9) hf' (hpt j hj) hn hf (by rw [ej_fs_len]; exact hj) hd fun H1 locs1 hP1 hD1 hS1 => ?_
    exact kk H1 locs1 ((congrArg (fun w => va_P D vwCl w H1) hset).mp hP1) ((congrArg (fun w => va_D A w) hset).mp hD1) hS1
theorem ej_fs_setR {ad : Nat → Nat} {c N j b : Nat} {I : Nat → Int32} {rs : List (Option Nat)} (hty : ej_isR (ej_ty c j) = true) (hr : j < rs.length) : (ej_fs ad c N I rs).set j (.ref (ad b)) = ej_fs ad c N I (rs.set j (some b)) := by
  apply List.ext_getElem?
  intro k
  rw [List.getElem?_set, ej_fs_len]
  by_cases hk : k < N
  · by_cases hjk : j = k
    · subst hjk
      rw [if_pos rfl, if_pos hk, ej_fs_at hk]
      simp [ej_fv, hty, hr, va_rf]
    · rw [if_neg hjk, ej_fs_at hk, ej_fs_at hk]
      simp [List.getD_eq_getElem?_getD, List.getElem?_set, hjk]
  · have e1 : (ej_fs ad c N I rs)[k]? = none := List.getElem?_eq_none (by rw [ej_fs_len]; omega)
    have e2 : (ej_fs ad c N I (rs.set j (some b)))[k]? = none := List.getElem?_eq_none (by rw [ej_fs_len]; omega)
    rw [e1, e2]
    by_cases hjk : j = k
    · rw [if_pos hjk, if_neg (by omega)]
    · rw [if_neg hjk]
theorem ej_ns_set {S : ej_S} {a c N : Nat} {rs rs' : List (Option Nat)} (ha : S[a]? = some (c, N, rs)) : ej_ns (S.set a (c, N, rs')) = ej_ns S := by
  unfold ej_ns
  congr 1
  rw [List.map_set]
  apply List.ext_getElem?
  intro k
  rw [List.getElem?_set]
  by_cases hk : a = k
  · subst hk
    rw [if_pos rfl, List.length_map, if_pos (ej_lt ha), List.getElem?_map, ha]; rfl
  · rw [if_neg hk]
theorem z_putRF {a b c j N idx : Nat} {rs : List (Option Nat)} (hd : decode cc pc = .ok (.putfield idx, 3)) (hL : ej_FO own idx c j N) (hi : nm = "<init>") (ha : H.1[a]? = some (c, N, rs)) (hty : ej_isR (ej_ty c j) = true) (hn : ∀ x, narrow (ej_ty c j) (.ref x) = .ref x) (hf : ∀ x, fits (ej_ty c j) (.ref x) = true) (hr : j < rs.length) (k : ej_Z cc nL rt own nm d (pc + 3) ls st (H.1.set a (c, N, rs.set j (some b)), H.2) res) : ej_Z cc nL rt own nm d pc ls (.ref b :: .ref a :: st) H res := by
  refine z_upd (H1 := (H.1.set a (c, N, rs.set j (some b)), H.2)) (by simp) (ej_ns_set ha) (fun _ _ _ => rfl) (fun p l e R s m args below meth c0 A D cy ad Hc locs cells slots lsc Q hC hT hP hD hS kk => ?_) k
  obtain ⟨hx, hb, hml, hr', hown, hts, hlk, hK, hA, hin⟩ := hC
  obtain ⟨C, T, ⟨hc, h50, hw, hpt, hnm⟩, hj, hf', hO, h⟩ := hL
  have hset : (ej_ws cy ad H).set a (ad a, .inr (c, (ej_fs ad c N (H.2.1 a) rs).set j (.ref (ad b)))) = ej_ws cy ad (H.1.set a (c, N, rs.set j (some b)), H.2) := by
    refine ej_ws_set (H1 := (H.1.set a (c, N, rs.set j (some b)), H.2)) (x := (c, N, rs.set j (some b))) (by simp) (by simp [ej_lt ha]) ?_ fun b' y hb' hy => ⟨by simp [List.getElem?_set, show ¬ a = b' from fun q => hb' q.symm, hy], rfl⟩
    rw [ej_fs_setR hty hr]
    simp [ej_e, h50]
  refine va_putF hx hb hts hw (ej_ty c) hpt hnm hown hK hP hD hS a (ej_ws_obj ha h50) hc j hj (hts _ h) (fun _ h9 => h9) hf' (hin hi) hO (hpt j hj) (hn _) (hf _) (by rw [ej_fs_len]; exact hj) hd fun H1 locs1 hP1 hD1 hS1 => ?_
  exact kk H1 locs1 ((congrArg (fun w => va_P D vwCl w H1) hset).mp hP1) ((congrArg (fun w => va_D A w) hset).mp hD1) hS1
theorem ej_al_cases {a t n : Nat} (h : ej_al H a = some (t, n)) : (∃ rs, H.1[a]? = some (50 + t, n, rs)) ∨ (1000 ≤ a ∧ ej_sa H.2.1 a = some (t, n)) := by
  unfold ej_al at h
  cases hx : H.1[a]? with
  | some x =>
    rw [hx] at h
    obtain ⟨k, m, rs⟩ := x
    by_cases h5 : 50 ≤ k
    · simp only [if_pos h5, Option.some.injEq, Prod.mk.injEq] at h
      refine Or.inl ⟨rs, ?_⟩
      rw [show 50 + t = k by omega, h.2]
    · simp only [if_neg h5] at h
      cases h
  | none =>
    rw [hx] at h
    by_cases h5 : a < 1000
    · simp only [if_pos h5] at h
      cases h
    · simp only [if_neg h5] at h
      exact Or.inr ⟨by omega, h⟩
theorem z_iald {a n : Nat} {i : Int32} (hd : decode cc pc = .ok (.iaload, 1)) (ha : ej_al H a = some (0, n)) (hin : vp_in i n) (k : ej_Z cc nL rt own nm d (pc + 1) ls (.int (H.2.1 a i.toNatClampNeg) :: st) H res) : ej_Z cc nL rt own nm d pc ls (.int i :: .ref a :: st) H res :=
  z_lift (fun _ _ _ _ s _ _ _ _ _ A _ cy ad _ _ _ _ _ _ hC hT hl hP hS kk => by
    obtain ⟨hx, hb, hml, hr, hown, hts, hlk, hK, hA, hi9⟩ := hC
    rcases ej_al_cases ha with ⟨rs, h1⟩ | ⟨h1, h2⟩
    · exact va_iald hx hb hK hP a 0 (ej_ws_arr h1 (by decide)) rfl hin hd (kk _ hl)
    · exact va_ti hx hb (hT.2.2.2.1 a 0 n h1 h2) hS hin rfl hd (kk _ hl)) k
theorem z_bald {a n : Nat} {i : Int32} (hd : decode cc pc = .ok (.baload, 1)) (ha : ej_al H a = some (1, n)) (hin : vp_in i n) (k : ej_Z cc nL rt own nm d (pc + 1) ls (.int (H.2.1 a i.toNatClampNeg) :: st) H res) : ej_Z cc nL rt own nm d pc ls (.int i :: .ref a :: st) H res :=
  z_lift (fun _ _ _ _ s _ _ _ _ _ A _ cy ad _ _ _ _ _ _ hC hT hl hP hS kk => by
    obtain ⟨hx, hb, hml, hr, hown, hts, hlk, hK, hA, hi9⟩ := hC
    rcases ej_al_cases ha with ⟨rs, h1⟩ | ⟨h1, h2⟩
    · exact va_bald hx hb hK hP a 1 (ej_ws_arr h1 (by decide)) rfl hin hd (kk _ hl)
    · exact va_tb hx hb (hT.2.2.2.1 a 1 n h1 h2) hS hin rfl hd (kk _ hl)) k
theorem z_sald {a n : Nat} {i : Int32} (hd : decode cc pc = .ok (.saload, 1)) (ha : ej_al H a = some (2, n)) (hin : vp_in i n) (k : ej_Z cc nL rt own nm d (pc + 1) ls (.int (H.2.1 a i.toNatClampNeg) :: st) H res) : ej_Z cc nL rt own nm d pc ls (.int i :: .ref a :: st) H res :=
  z_lift (fun _ _ _ _ s _ _ _ _ _ A _ cy ad _ _ _ _ _ _ hC hT hl hP hS kk => by
    obtain ⟨hx, hb, hml, hr, hown, hts, hlk, hK, hA, hi9⟩ := hC
    rcases ej_al_cases ha with ⟨rs, h1⟩ | ⟨h1, h2⟩
    · exact va_sald hx hb hK hP a 2 (ej_ws_arr h1 (by decide)) rfl hin hd (kk _ hl)
    · exact va_ts hx hb (hT.2.2.2.1 a 2 n h1 h2) hS hin rfl hd (kk _ hl)) k
theorem z_lald {a n : Nat} {i : Int32} {rs : List (Option Nat)} (hd : decode cc pc = .ok (.laload, 1)) (ha : H.1[a]? = some (53, n, rs)) (hin : vp_in i n) (k : ej_Z cc nL rt own nm d (pc + 1) ls (.long (H.2.2 a i.toNatClampNeg) :: st) H res) : ej_Z cc nL rt own nm d pc ls (.int i :: .ref a :: st) H res :=
  z_lift (fun _ _ _ _ s _ _ _ _ _ A _ cy ad _ _ _ _ _ _ hC hT hl hP hS kk => by
    obtain ⟨hx, hb, hml, hr, hown, hts, hlk, hK, hA, hi9⟩ := hC
    exact va_lald hx hb hK hP a 3 (ej_ws_arl ha) rfl hin hd (kk _ hl)) k
theorem z_alen {a t n : Nat} {v : Int32} (hd : decode cc pc = .ok (.arraylength, 1)) (ha : ej_al H a = some (t, n)) (ht : t < 4) (hv : Int32.ofNat n = v) (k : ej_Z cc nL rt own nm d (pc + 1) ls (.int v :: st) H res) : ej_Z cc nL rt own nm d pc ls (.ref a :: st) H res :=
  z_lift (fun _ _ _ _ s _ _ _ _ _ A _ cy ad _ _ _ _ _ _ hC hT hl hP hS kk => by
    obtain ⟨hx, hb, hml, hr, hown, hts, hlk, hK, hA, hi9⟩ := hC
    rcases ej_al_cases ha with ⟨rs, h1⟩ | ⟨h1, h2⟩
    · have ht' : t = 3 ∨ t ≠ 3 := by omega
      rcases ht' with rfl | h3
      · exact va_alen hx hb hK hP a 3 (ej_ws_arl h1) rfl hv hd (kk _ hl)
      · have h4 : t = 0 ∨ t = 1 ∨ t = 2 := by omega
        rcases h4 with rfl | rfl | rfl
        · exact va_alen hx hb hK hP a 0 (ej_ws_arr h1 h3) rfl hv hd (kk _ hl)
        · exact va_alen hx hb hK hP a 1 (ej_ws_arr h1 h3) rfl hv hd (kk _ hl)
        · exact va_alen hx hb hK hP a 2 (ej_ws_arr h1 h3) rfl hv hd (kk _ hl)
    · exact va_tlen hx hb (hT.2.2.2.1 a t n h1 h2) hS hv hd (kk _ hl)) k
theorem z_iast {a n : Nat} {i x : Int32} {rs : List (Option Nat)} (hd : decode cc pc = .ok (.iastore, 1)) (ha : H.1[a]? = some (50, n, rs)) (hin : vp_in i n) (k : ej_Z cc nL rt own nm d (pc + 1) ls st (H.1, ej_w H.2 a i.toNatClampNeg (x)) res) : ej_Z cc nL rt own nm d pc ls (.int x :: .int i :: .ref a :: st) H res := by
  refine z_upd (H1 := (H.1, ej_w H.2 a i.toNatClampNeg (x))) rfl rfl (fun hz => ej_w_ge (ej_lt ha) hz) (fun p l e R s m args below meth c0 A D cy ad Hc locs cells slots lsc Q hC hT hP hD hS kk => ?_) k
  obtain ⟨hx, hb, hml, hr, hown, hts, hlk, hK, hA, hi9⟩ := hC
  have hset : (ej_ws cy ad H).set a (ad a, .inl (cy 0, n, .inl (upd (H.2.1 a) i.toNatClampNeg (x)))) = ej_ws cy ad (H.1, ej_w H.2 a i.toNatClampNeg (x)) :=
    ej_ws_set (H1 := (H.1, ej_w H.2 a i.toNatClampNeg (x))) (x := (50, n, rs)) rfl ha (by simp [ej_e, ej_w]) fun b y hb hy => ⟨hy, ej_e_w hb⟩
  refine va_iast hx hb hK hP hD hS a 0 (ej_ws_arr (t := 0) ha (by decide)) rfl hin hd fun H1 locs1 hP1 hD1 hS1 => ?_
  exact kk H1 locs1 ((congrArg (fun w => va_P D vwCl w H1) hset).mp hP1) ((congrArg (fun w => va_D A w) hset).mp hD1) hS1
theorem z_bast {a n : Nat} {i x : Int32} {rs : List (Option Nat)} (hd : decode cc pc = .ok (.bastore, 1)) (ha : H.1[a]? = some (51, n, rs)) (hin : vp_in i n) (k : ej_Z cc nL rt own nm d (pc + 1) ls st (H.1, ej_w H.2 a i.toNatClampNeg (vp_nar .byte x)) res) : ej_Z cc nL rt own nm d pc ls (.int x :: .int i :: .ref a :: st) H res := by
  refine z_upd (H1 := (H.1, ej_w H.2 a i.toNatClampNeg (vp_nar .byte x))) rfl rfl (fun hz => ej_w_ge (ej_lt ha) hz) (fun p l e R s m args below meth c0 A D cy ad Hc locs cells slots lsc Q hC hT hP hD hS kk => ?_) k
  obtain ⟨hx, hb, hml, hr, hown, hts, hlk, hK, hA, hi9⟩ := hC
  have hset : (ej_ws cy ad H).set a (ad a, .inl (cy 1, n, .inl (upd (H.2.1 a) i.toNatClampNeg (vp_nar .byte x)))) = ej_ws cy ad (H.1, ej_w H.2 a i.toNatClampNeg (vp_nar .byte x)) :=
    ej_ws_set (H1 := (H.1, ej_w H.2 a i.toNatClampNeg (vp_nar .byte x))) (x := (51, n, rs)) rfl ha (by simp [ej_e, ej_w]) fun b y hb hy => ⟨hy, ej_e_w hb⟩
  refine va_bast hx hb hK hP hD hS a 1 (ej_ws_arr (t := 1) ha (by decide)) rfl hin hd fun H1 locs1 hP1 hD1 hS1 => ?_
  exact kk H1 locs1 ((congrArg (fun w => va_P D vwCl w H1) hset).mp hP1) ((congrArg (fun w => va_D A w) hset).mp hD1) hS1
theorem z_sast {a n : Nat} {i x : Int32} {rs : List (Option Nat)} (hd : decode cc pc = .ok (.sastore, 1)) (ha : H.1[a]? = some (52, n, rs)) (hin : vp_in i n) (k : ej_Z cc nL rt own nm d (pc + 1) ls st (H.1, ej_w H.2 a i.toNatClampNeg (vp_nar .short x)) res) : ej_Z cc nL rt own nm d pc ls (.int x :: .int i :: .ref a :: st) H res := by
  refine z_upd (H1 := (H.1, ej_w H.2 a i.toNatClampNeg (vp_nar .short x))) rfl rfl (fun hz => ej_w_ge (ej_lt ha) hz) (fun p l e R s m args below meth c0 A D cy ad Hc locs cells slots lsc Q hC hT hP hD hS kk => ?_) k
  obtain ⟨hx, hb, hml, hr, hown, hts, hlk, hK, hA, hi9⟩ := hC
  have hset : (ej_ws cy ad H).set a (ad a, .inl (cy 2, n, .inl (upd (H.2.1 a) i.toNatClampNeg (vp_nar .short x)))) = ej_ws cy ad (H.1, ej_w H.2 a i.toNatClampNeg (vp_nar .short x)) :=
    ej_ws_set (H1 := (H.1, ej_w H.2 a i.toNatClampNeg (vp_nar .short x))) (x := (52, n, rs)) rfl ha (by simp [ej_e, ej_w]) fun b y hb hy => ⟨hy, ej_e_w hb⟩
  refine va_sast hx hb hK hP hD hS a 2 (ej_ws_arr (t := 2) ha (by decide)) rfl hin hd fun H1 locs1 hP1 hD1 hS1 => ?_
  exact kk H1 locs1 ((congrArg (fun w => va_P D vwCl w H1) hset).mp hP1) ((congrArg (fun w => va_D A w) hset).mp hD1) hS1
theorem z_last {a n : Nat} {i : Int32} {x : Int64} {rs : List (Option Nat)} (hd : decode cc pc = .ok (.lastore, 1)) (ha : H.1[a]? = some (53, n, rs)) (hin : vp_in i n) (k : ej_Z cc nL rt own nm d (pc + 1) ls st (H.1, ej_wl H.2 a i.toNatClampNeg x) res) : ej_Z cc nL rt own nm d pc ls (.long x :: .int i :: .ref a :: st) H res := by
  refine z_upd (H1 := (H.1, ej_wl H.2 a i.toNatClampNeg x)) rfl rfl (fun hz _ _ => rfl) (fun p l e R s m args below meth c0 A D cy ad Hc locs cells slots lsc Q hC hT hP hD hS kk => ?_) k
  obtain ⟨hx, hb, hml, hr, hown, hts, hlk, hK, hA, hi9⟩ := hC
  have hset : (ej_ws cy ad H).set a (ad a, .inl (cy 3, n, .inr (.inl (vp_updL (H.2.2 a) i.toNatClampNeg x)))) = ej_ws cy ad (H.1, ej_wl H.2 a i.toNatClampNeg x) :=
    ej_ws_set (H1 := (H.1, ej_wl H.2 a i.toNatClampNeg x)) (x := (53, n, rs)) rfl ha (by simp [ej_e, ej_wl]) fun b y hb hy => ⟨hy, ej_e_wl hb⟩
  refine va_last hx hb hK hP hD hS a 3 (ej_ws_arl ha) rfl hin hd fun H1 locs1 hP1 hD1 hS1 => ?_
  exact kk H1 locs1 ((congrArg (fun w => va_P D vwCl w H1) hset).mp hP1) ((congrArg (fun w => va_D A w) hset).mp hD1) hS1
theorem z_gets {idx a : Nat} {n : String} (hd : decode cc pc = .ok (.getstatic idx, 3)) (hn : n = "ABOVE" ∧ a = 1000 ∨ n = "NUMBERS" ∧ a = 1001) (hw : Cond.fieldLink own idx "BothBeside$Acts" n "[I" ∈ ej_tbl) (k : ej_Z cc nL rt own nm d (pc + 3) ls (.ref a :: st) H res) : ej_Z cc nL rt own nm d pc ls st H res :=
  z_lift (fun _ _ _ _ s _ _ _ _ _ A _ cy ad _ _ _ _ _ _ hC hT hl hP hS kk => by
    obtain ⟨hx, hb, hml, hr, hown, hts, hlk, hK, hA, hi9⟩ := hC
    rcases hn with ⟨rfl, rfl⟩ | ⟨rfl, rfl⟩
    · exact va_gets hx hb hT.1 hS hown (hts _ hw) (fun _ h => h) hd (kk _ hl)
    · exact va_gets hx hb hT.2.1 hS hown (hts _ hw) (fun _ h => h) hd (kk _ hl)) k
theorem z_getsC {idx : Nat} (hd : decode cc pc = .ok (.getstatic idx, 3)) (hw : Cond.fieldLink own idx "java/lang/String" "COMPACT_STRINGS" "Z" ∈ ej_tbl) (k : ej_Z cc nL rt own nm d (pc + 3) ls (.int 1 :: st) H res) : ej_Z cc nL rt own nm d pc ls st H res :=
  z_lift (fun _ _ _ _ s _ _ _ _ _ A _ cy ad _ _ _ _ _ _ hC hT hl hP hS kk => by
    obtain ⟨hx, hb, hml, hr, hown, hts, hlk, hK, hA, hi9⟩ := hC
    exact va_gets hx hb hT.2.2.1 hS hown (hts _ hw) (fun _ h => h) hd (kk _ hl)) k
theorem z_getSV {idx i : Nat} (hd : decode cc pc = .ok (.getfield idx, 3)) (hw : Cond.fieldLink own idx "java/lang/String" "value" "[B" ∈ ej_tbl) (hi : i < ej_stx.length) (k : ej_Z cc nL rt own nm d (pc + 3) ls (.ref (3000 + i) :: st) H res) : ej_Z cc nL rt own nm d pc ls (.ref (2000 + i) :: st) H res :=
  z_lift (fun _ _ _ _ s _ _ _ _ _ A _ cy ad _ _ _ _ _ _ hC hT hl hP hS kk => by
    obtain ⟨hx, hb, hml, hr, hown, hts, hlk, hK, hA, hi9⟩ := hC
    exact vk_getf hx hb (hT.2.2.2.2.1.1 i hi).2.2.1 hS hown (hts _ hw) (fun _ h => h) hd (kk _ hl)) k
theorem z_getSC {idx i : Nat} (hd : decode cc pc = .ok (.getfield idx, 3)) (hw : Cond.fieldLink own idx "java/lang/String" "coder" "B" ∈ ej_tbl) (hi : i < ej_stx.length) (k : ej_Z cc nL rt own nm d (pc + 3) ls (.int 0 :: st) H res) : ej_Z cc nL rt own nm d pc ls (.ref (2000 + i) :: st) H res :=
  z_lift (fun _ _ _ _ s _ _ _ _ _ A _ cy ad _ _ _ _ _ _ hC hT hl hP hS kk => by
    obtain ⟨hx, hb, hml, hr, hown, hts, hlk, hK, hA, hi9⟩ := hC
    exact vk_getf hx hb (hT.2.2.2.2.1.1 i hi).2.1 hS hown (hts _ hw) (fun _ h => h) hd (kk _ hl)) k
end EJ
