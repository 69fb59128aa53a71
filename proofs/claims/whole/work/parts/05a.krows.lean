/-! rows at a shape that grows: everything is named -/
section EJ
variable {cc : ByteArray} {nL : Nat} {rt : Option FieldType} {own nm : String} {d pc : Nat} {ls : List (Nat × Value)} {st : List Value} {S S1 : ej_S} {m m1 : ej_M} {res : Option Value × ej_H}
theorem z_kput {a b c j N idx : Nat} {rs : List (Option Nat)} {ty : FieldType} (hd : decode cc pc = .ok (.putfield idx, 3)) (hL : ej_FO own idx c j N) (hi : nm = "<init>") (ha : S[a]? = some (c, N, rs)) (hty : ej_ty c j = ty) (hty2 : ej_isR ty = true) (hn : ∀ x, narrow ty (.ref x) = .ref x) (hf : ∀ x, fits ty (.ref x) = true) (hr : j < rs.length) (hS1 : S.set a (c, N, rs.set j (some b)) = S1) (k : ej_Z cc nL rt own nm d (pc + 3) ls st (S1, m) res) : ej_Z cc nL rt own nm d pc ls (.ref b :: .ref a :: st) (S, m) res := by
  subst hS1; subst hty
  exact z_putRF (H := (S, m)) hd hL hi ha hty2 hn hf hr k
theorem z_knew {idx c N K : Nat} (hd : decode cc pc = .ok (.new idx, 3)) (hL : ej_NL own idx c N) (hK : S.length = K) (hlt : K < 1000) (hS : ej_okS K S = true) (hls : ls.all (fun q => ej_okv K q.2) = true) (hst : st.all (ej_okv K) = true) (hS1 : S ++ [(c, N, List.replicate N none)] = S1) (hm1 : ej_z m K = m1)
    (k : ej_Z cc nL rt own nm d (pc + 3) ls (.ref K :: st) (S1, m1) res) : ej_Z cc nL rt own nm d pc ls st (S, m) res := by
  subst hS1; subst hm1; subst hK
  exact z_new (H := (S, m)) hd hL hlt hS hls hst k
theorem z_knewa {atype : ArrayType} {t N K : Nat} {n : Int32} (hd : decode cc pc = .ok (.newarray atype, 2)) (hat : newarray.typeOf atype = ej_at t) (ht : t < 4) (hw : Cond.arrayClass (ej_at t) ∈ ej_tbl) (hn : ¬ n < 0) (hN : n.toNatClampNeg = N) (hb8 : N * componentBytes (ej_at t) ≤ 536870912) (hK : S.length = K) (hlt : K < 1000) (hS : ej_okS K S = true) (hls : ls.all (fun q => ej_okv K q.2) = true) (hst : st.all (ej_okv K) = true) (hS1 : S ++ [(50 + t, N, [])] = S1) (hm1 : ej_z m K = m1)
    (k : ej_Z cc nL rt own nm d (pc + 2) ls (.ref K :: st) (S1, m1) res) : ej_Z cc nL rt own nm d pc ls (.int n :: st) (S, m) res := by
  subst hS1; subst hm1; subst hK
  exact z_newa (H := (S, m)) hd hat ht hw hn hN hb8 hlt hS hls hst k
theorem z_kputI {a c j N idx : Nat} {rs : List (Option Nat)} {v : Int32} (hd : decode cc pc = .ok (.putfield idx, 3)) (hL : ej_FL own idx c j N false) (ha : S[a]? = some (c, N, rs)) (hty : ej_ty c j = .int) (hm1 : ej_w m a j v = m1) (k : ej_Z cc nL rt own nm d (pc + 3) ls st (S, m1) res) : ej_Z cc nL rt own nm d pc ls (.int v :: .ref a :: st) (S, m) res := by
  subst hm1
  exact z_putI (H := (S, m)) hd hL ha (by rw [hty]; rfl) (by rw [hty]; rfl) (by rw [hty]; rfl) k
theorem z_kgetR {a b c j N idx : Nat} {rs : List (Option Nat)} {f : Bool} {ty : FieldType} (hd : decode cc pc = .ok (.getfield idx, 3)) (hL : ej_FL own idx c j N f) (ha : S[a]? = some (c, N, rs)) (hty : ej_ty c j = ty) (hr : ej_isR ty = true) (hb : rs.getD j none = some b) (k : ej_Z cc nL rt own nm d (pc + 3) ls (.ref b :: st) (S, m) res) : ej_Z cc nL rt own nm d pc ls (.ref a :: st) (S, m) res :=
  z_getR (H := (S, m)) hd hL ha (by rw [hty]; exact hr) hb k
theorem z_kiast {a n i0 : Nat} {i x : Int32} {rs : List (Option Nat)} (hd : decode cc pc = .ok (.iastore, 1)) (ha : S[a]? = some (50, n, rs)) (hin : i.toNatClampNeg = i0) (hi0 : ¬ i < 0) (hn : i0 < n) (hm1 : ej_w m a i0 x = m1) (k : ej_Z cc nL rt own nm d (pc + 1) ls st (S, m1) res) : ej_Z cc nL rt own nm d pc ls (.int x :: .int i :: .ref a :: st) (S, m) res := by
  subst hm1; subst hin
  exact z_iast (H := (S, m)) hd ha (fun q => q.elim (fun z => hi0 z) (fun z => by omega)) k
theorem z_kalen {a n : Nat} {v : Int32} {rs : List (Option Nat)} (hd : decode cc pc = .ok (.arraylength, 1)) (ha : S[a]? = some (50, n, rs)) (hv : Int32.ofNat n = v) (k : ej_Z cc nL rt own nm d (pc + 1) ls (.int v :: st) (S, m) res) : ej_Z cc nL rt own nm d pc ls (.ref a :: st) (S, m) res :=
  z_alen (H := (S, m)) (t := 0) (n := n) hd (by unfold ej_al; simp only [ha]; rfl) (by decide) hv k
theorem z_kiinc {i j : Nat} {n : Int} {x v w : Int32} {ls' : List (Nat × Value)} (hd : decode cc pc = .ok (.iinc i n, 3)) (hj : ls[j]? = some (i, .int x)) (hv : Int32.ofInt n = v) (hw : x + v = w) (hn : i < nL) (hl' : (i, Value.int w) :: ls.filter (fun q => !(q.1 == i) && !(q.1 + 1 == i && q.2.category == 2)) = ls') (k : ej_Z cc nL rt own nm d (pc + 3) ls' st (S, m) res) : ej_Z cc nL rt own nm d pc ls st (S, m) res := by
  subst hw
  exact z_iinc hd hj hv hn hl' k
theorem z_kI {y : MethodName} {c2 : ByteArray} {n2 n idx b K : Nat} {as rest st0 : List Value} (hd : decode cc pc = .ok (.invokespecial idx, 3)) (hL : ej_ML own idx y) (hM : ej_MF y c2 n2 none n) (hi : Cond.instanceMethod y ∈ ej_tbl) (hs : y.name = "<init>") (hn : as.length = n) (hst : st0 = as.reverse ++ .ref b :: rest) (h8 : (rest.map fun v => v.category).sum ≤ 8)
    (hc : ej_Ct y c2 n2 none d (.ref b :: as) (S, m) (none, (S1, m1))) (hK : S.length = K) (hls : ls.all (fun q => ej_okv K q.2) = true) (hrs : rest.all (ej_okv K) = true)
    (k : ej_Z cc nL rt own nm (d + 1) (pc + 3) ls rest (S1, m1) res) : ej_Z cc nL rt own nm (d + 1) pc ls st0 (S, m) res := by
  subst hK
  exact z_callI hd hL hM hi hs hn hst h8 hc (Or.inr ⟨hls, hrs⟩) k
theorem z_kS {y : MethodName} {c2 : ByteArray} {n2 n idx : Nat} {as rest st0 : List Value} (hd : decode cc pc = .ok (.invokestatic idx, 3)) (hL : ej_ML own idx y) (hM : ej_MF y c2 n2 none n) (hs : Cond.static y ∈ ej_tbl) (hn : as.length = n) (hst : st0 = as.reverse ++ rest) (h8 : (rest.map fun v => v.category).sum ≤ 8)
    (hc : ej_Ct y c2 n2 none d as (S, m) (none, (S, m1))) (k : ej_Z cc nL rt own nm (d + 1) (pc + 3) ls rest (S, m1) res) : ej_Z cc nL rt own nm (d + 1) pc ls st0 (S, m) res :=
  z_callS hd hL hM hs hn hst h8 hc (Or.inl rfl) k
end EJ
