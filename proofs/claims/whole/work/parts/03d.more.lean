/-! more rows -/
section EJ
variable {cc : ByteArray} {nL : Nat} {rt : Option FieldType} {own nm : String} {d pc : Nat} {ls : List (Nat × Value)} {st : List Value} {res : Option Value × ej_H}
theorem z_tabD {H : ej_H} {dflt lo hi : Int} {offs : Array Int} {len tgt : Nat} {x : Int32} (hd : decode cc pc = .ok (.tableswitch dflt lo hi offs, len)) (hs : lo + (offs.size : Int) = hi + 1) (h : ∀ k : Nat, k < offs.size → offs[k]? = some dflt ∨ x.toInt ≠ lo + (k : Int)) (ht : (pc : Int) + dflt = (tgt : Int)) (k : ej_Z cc nL rt own nm d tgt ls st H res) : ej_Z cc nL rt own nm d pc ls (.int x :: st) H res := by
  by_cases h1 : x.toInt < lo
  · exact z_tabOut hd (Or.inl h1) ht k
  · by_cases h2 : hi < x.toInt
    · exact z_tabOut hd (Or.inr h2) ht k
    · rcases h (x.toInt - lo).toNat (by omega) with h3 | h3
      · exact z_tabIn hd h1 h2 h3 ht k
      · exact absurd (by omega) h3
def oj_RF : Nat := 120
theorem z_mmax {H : ej_H} {idx : Nat} {x y : Int32} (hd : decode cc pc = .ok (.invokestatic idx, 3)) (hL : Cond.methodLink own idx Lib.Math.max.name ∈ ej_tbl) (hs : Cond.static Lib.Math.max.name ∈ ej_tbl) (hi : Cond.initialized "java/lang/Math" ∈ ej_tbl) (hc : Cond.code Lib.Math.max.name Lib.Math.max.code 2 (some .int) ∈ ej_tbl) (h8 : (st.map fun v => v.category).sum ≤ 8) (k : ej_Z cc nL rt own nm (d + 1) (pc + 3) ls (.int (if x < y then y else x) :: st) H res) : ej_Z cc nL rt own nm (d + 1) pc ls (.int y :: .int x :: st) H res :=
  ⟨k.1, fun p l e R s m args below meth c A D cy ad Hc locs cells slots cells' slots' lsc Q hC hT hz h1 h2 h3 h4 h5 h6 hl hP hD hS hend => by
    obtain ⟨hx, hb, hml, hr, hown, hts, hlk, hK, hA, hi9⟩ := id hC
    have h8' := ej_room8 (m := m) (pc := pc) (lsc := lsc) (st0 := []) h8 (ad := ad)
    obtain ⟨q1, q2, -⟩ := k.1
    refine va_mmax hx hb (hml.trans hl.1.symm) hown (hts _ hL) (hts _ hs) (hts _ hi) (hts _ hc) (by omega) (by omega) (by omega) (by omega) hd ?_
    exact k.2 p l e R s m args below meth c A D cy ad Hc locs cells slots cells' slots' lsc Q hC hT hz h1 h2 h3 h4 h5 h6 hl hP hD hS hend⟩
theorem z_mmin {H : ej_H} {idx : Nat} {x y : Int32} (hd : decode cc pc = .ok (.invokestatic idx, 3)) (hL : Cond.methodLink own idx Lib.Math.min.name ∈ ej_tbl) (hs : Cond.static Lib.Math.min.name ∈ ej_tbl) (hi : Cond.initialized "java/lang/Math" ∈ ej_tbl) (hc : Cond.code Lib.Math.min.name Lib.Math.min.code 2 (some .int) ∈ ej_tbl) (h8 : (st.map fun v => v.category).sum ≤ 8) (k : ej_Z cc nL rt own nm (d + 1) (pc + 3) ls (.int (if y < x then y else x) :: st) H res) : ej_Z cc nL rt own nm (d + 1) pc ls (.int y :: .int x :: st) H res :=
  ⟨k.1, fun p l e R s m args below meth c A D cy ad Hc locs cells slots cells' slots' lsc Q hC hT hz h1 h2 h3 h4 h5 h6 hl hP hD hS hend => by
    obtain ⟨hx, hb, hml, hr, hown, hts, hlk, hK, hA, hi9⟩ := id hC
    have h8' := ej_room8 (m := m) (pc := pc) (lsc := lsc) (st0 := []) h8 (ad := ad)
    obtain ⟨q1, q2, -⟩ := k.1
    refine va_mmin hx hb (hml.trans hl.1.symm) hown (hts _ hL) (hts _ hs) (hts _ hi) (hts _ hc) (by omega) (by omega) (by omega) (by omega) hd ?_
    exact k.2 p l e R s m args below meth c A D cy ad Hc locs cells slots cells' slots' lsc Q hC hT hz h1 h2 h3 h4 h5 h6 hl hP hD hS hend⟩
end EJ
theorem mx_max : Cond.static Lib.Math.max.name ∈ ej_tbl ∧ Cond.initialized "java/lang/Math" ∈ ej_tbl ∧ Cond.code Lib.Math.max.name Lib.Math.max.code 2 (some .int) ∈ ej_tbl := ⟨ej_in3 84 (by decide +kernel) (by decide +kernel), ej_in1 15 (by decide +kernel) (by decide +kernel), ej_in3 85 (by decide +kernel) (by decide +kernel)⟩
theorem lx_RJ1_92 : Cond.methodLink RJ1 92 Lib.Math.max.name ∈ ej_tbl := ej_in3 83 (by decide +kernel) (by decide +kernel)
theorem lx_RJ2_224 : Cond.methodLink RJ2 224 Lib.Math.max.name ∈ ej_tbl := ej_in3 95 (by decide +kernel) (by decide +kernel)
theorem lx_RX5_54 : Cond.methodLink RX5 54 Lib.Math.max.name ∈ ej_tbl := ej_in4 97 (by decide +kernel) (by decide +kernel)
theorem mx_min : Cond.static Lib.Math.min.name ∈ ej_tbl ∧ Cond.initialized "java/lang/Math" ∈ ej_tbl ∧ Cond.code Lib.Math.min.name Lib.Math.min.code 2 (some .int) ∈ ej_tbl := ⟨ej_in3 87 (by decide +kernel) (by decide +kernel), ej_in1 15 (by decide +kernel) (by decide +kernel), ej_in3 88 (by decide +kernel) (by decide +kernel)⟩
theorem lx_RJ1_38 : Cond.methodLink RJ1 38 Lib.Math.min.name ∈ ej_tbl := ej_in3 86 (by decide +kernel) (by decide +kernel)
theorem lx_RJ2_183 : Cond.methodLink RJ2 183 Lib.Math.min.name ∈ ej_tbl := ej_in3 96 (by decide +kernel) (by decide +kernel)
theorem lx_RX8_67 : Cond.methodLink RX8 67 Lib.Math.min.name ∈ ej_tbl := ej_in4 34 (by decide +kernel) (by decide +kernel)
