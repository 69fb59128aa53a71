theorem im_Z (e : Nat) (hd : 128 ≤ e) {L : Nat} {xs : Nat → Int32} {q : Int32 × ej_M} (hf : f_L_law_L18 0 ((mk_83 (im_m L xs))) = some q) : ej_Z cL_law 4 (some .boolean) RL "law" (e + 1) 0 [(0, .ref 4000)] [] (hs_0, im_m L xs) (some (.int q.1), (ej_sh, q.2)) := by
  refine law_pre e (by omega) (im_m L xs) ?_
  rw [hs_end]
  exact z_pick [3, 2, 1, 0] rfl (b_L_law_L18 e (by omega) 0 _ (K := fun z => ((some (Value.int q.1), (ej_sh, q.2)) : Option Value × ej_H) = (some (Value.int z.1), (ej_sh, z.2))) hf rfl (fun _ h => h))
theorem im_X {b L : Nat} {xs : Nat → Int32} {s : State} (hL : L < 2 ^ 31) (h : va_X b L xs s s.heap) (hb : b < s.heap.size) : va_T .int b L (fun j => .int (xs j)) (fun q => s.heap.size ≤ q) s s.heap := by
  obtain ⟨scr, h1, h2, h3, h4, h5⟩ := h
  exact ⟨scr, h1, h2, h3, by omega, by rw [h4], h5, Nat.not_le.mpr hb⟩
set_option maxRecDepth 100000 in
set_option maxHeartbeats 4000000 in
theorem im_start {args : Array Value} {s : State} {b L : Nat} {xs : Nat → Int32} (hL : L < 2 ^ 31) (hts : ∀ w ∈ lw_tbl, w.before args s = true) (hgv : (Jvm.Cond.and given_1 narrow_1).before args s = true) (hX : va_X b L xs s s.heap) (hb : b < s.heap.size) :
    ∃ ad : Nat → Nat, ad 4000 = b ∧ ej_ST (im_I L xs) ad (fun q => s.heap.size ≤ q) s s.heap := by
  have hs := flat_of_before _ hgv
  have hA : ∀ a : Nat, a < s.heap.size → ¬ (fun q : Nat => s.heap.size ≤ q) a := fun a h => Nat.not_le.mpr h
  have ht : ∀ w ∈ ej_tbl, w.before args s = true := fun w h => hts w (List.mem_filter.mp h).1
  obtain ⟨tA, eA, TA⟩ := va_Tof (args := args) (s := s) (tm := .static "BothBeside$Acts" "ABOVE" "[I") (ty := .int) (N := 8) (f := fun j => .int (im_I L xs 1000 j)) (A := fun q => s.heap.size ≤ q) (by decide) (hs _ (by decide +kernel)) (va_eqt (hs _ (by decide +kernel)))
    (fun j hj => va_eqt (hs _ ((by decide +kernel : ∀ j, j < 8 → Cond.eq (.elem (.static "BothBeside$Acts" "ABOVE" "[I") (.int (Int32.ofNat j))) (.int (([-1, 0, 0, 2, 1, 3, 0, 6] : List Int32).getD j 0)) ∈ flatC (Jvm.Cond.and given_1 narrow_1)) j hj))) hA
  obtain ⟨tN, eN, TN⟩ := va_Tof (args := args) (s := s) (tm := .static "BothBeside$Acts" "NUMBERS" "[I") (ty := .int) (N := 32) (f := fun j => .int (im_I L xs 1001 j)) (A := fun q => s.heap.size ≤ q) (by decide) (hs _ (by decide +kernel)) (va_eqt (hs _ (by decide +kernel)))
    (fun j hj => va_eqt (hs _ ((by decide +kernel : ∀ j, j < 32 → Cond.eq (.elem (.static "BothBeside$Acts" "NUMBERS" "[I") (.int (Int32.ofNat j))) (.int (([1, 10, 11, 2, 20, 0, 0, 0, 0, 30, 0, 0, 0, 41, 40, 0, 0, 0, 0, 50, 0, 0, 60, 61, 70, 0, 0, 0, 81, 80, 0, 0] : List Int32).getD j 0)) ∈ flatC (Jvm.Cond.and given_1 narrow_1)) j hj))) hA
  obtain ⟨adK, adV, SK, eK⟩ := vk_Sof (args := args) (s := s) (N := ej_stx.length) (tm := im_tm) (len := ej_stx.map List.length) (byt := ej_stx) (A := fun q => s.heap.size ≤ q)
    (by decide +kernel)
    (fun i hi => hs _ ((by decide +kernel : ∀ i, i < ej_stx.length → Cond.exactly (im_tm i) "java/lang/String" ∈ flatC (Jvm.Cond.and given_1 narrow_1)) i hi))
    (fun i hi => hs _ ((by decide +kernel : ∀ i, i < ej_stx.length → Cond.eq (.field (im_tm i) "java/lang/String" "coder" "B") (.int 0) ∈ flatC (Jvm.Cond.and given_1 narrow_1)) i hi))
    (fun i hi => hs _ ((by decide +kernel : ∀ i, i < ej_stx.length → Cond.arrayOf (.field (im_tm i) "java/lang/String" "value" "[B") .byte ∈ flatC (Jvm.Cond.and given_1 narrow_1)) i hi))
    (fun i hi => hs _ ((by decide +kernel : ∀ i, i < ej_stx.length → Cond.eq (.length (.field (im_tm i) "java/lang/String" "value" "[B")) (.int (Int32.ofNat ((ej_stx.map List.length).getD i 0))) ∈ flatC (Jvm.Cond.and given_1 narrow_1)) i hi))
    (fun i hi j hj => hs _ ((by decide +kernel : ∀ i, i < ej_stx.length → ∀ j, j < (ej_stx.map List.length).getD i 0 → Cond.eq (.elem (.field (im_tm i) "java/lang/String" "value" "[B") (.int (Int32.ofNat j))) (.int ((ej_stx.getD i []).getD j 0)) ∈ flatC (Jvm.Cond.and given_1 narrow_1)) i hi j hj))
    (fun i j hi hj hne => ((by decide +kernel : ∀ i, i < ej_stx.length → ∀ j, j < ej_stx.length → i ≠ j → Cond.not (Cond.eq (im_tm i) (im_tm j)) ∈ flatC (Jvm.Cond.and given_1 narrow_1) ∨ Cond.not (Cond.eq (im_tm j) (im_tm i)) ∈ flatC (Jvm.Cond.and given_1 narrow_1)) i hi j hj hne).elim (fun h => Or.inl (hs _ h)) (fun h => Or.inr (hs _ h))) hA
  refine ⟨fun a => if a = 1000 then tA else if a = 1001 then tN else if a = 4000 then b else if 3000 ≤ a then adV (a - 3000) else adK (a - 2000), rfl, ?_⟩
  refine ⟨va_Zof (hts _ (by decide +kernel)) (hts _ (by decide +kernel)) eA hA, va_Zof (hts _ (by decide +kernel)) (hts _ (by decide +kernel)) eN hA, va_Zof (hts _ (by decide +kernel)) (hts _ (by decide +kernel)) (va_eqi (hs _ (by decide +kernel))) hA, ?_, ?_, ?_, ?_⟩
  · intro a t n ha hsa
    unfold ej_sa at hsa
    by_cases h1 : a = 1000
    · subst h1
      rw [if_pos rfl] at hsa
      cases hsa
      exact TA
    · rw [if_neg h1] at hsa
      by_cases h2 : a = 1001
      · subst h2
        rw [if_pos rfl] at hsa
        cases hsa
        exact TN
      · rw [if_neg h2] at hsa
        by_cases h3 : a = 4000
        · subst h3
          rw [if_pos rfl] at hsa
          have e1 : (im_I L xs 4001 0).toNatClampNeg = L := nI_clamp hL
          rw [e1] at hsa
          cases hsa
          exact im_X hL hX hb
        · rw [if_neg h3] at hsa
          by_cases h4 : 3000 ≤ a ∧ a < 3000 + ej_stx.length
          · rw [if_pos h4] at hsa
            cases hsa
            have hi : a - 3000 < ej_stx.length := by omega
            have := (SK.1 (a - 3000) hi).2.2.2
            rw [List.getD_eq_getElem?_getD, List.getElem?_map] at this
            have h5 : ¬ a = 4001 := by
              have h9 : ej_stx.length = 11 := rfl
              omega
            show va_T .byte (if a = 1000 then tA else if a = 1001 then tN else if a = 4000 then b else if 3000 ≤ a then adV (a - 3000) else adK (a - 2000)) (ej_sl (a - 3000)) (fun j => .int (im_I L xs a j)) _ _ _
            rw [if_neg h1, if_neg h2, if_neg h3, if_pos h4.1]
            have e2 : (fun j => Value.int (im_I L xs a j)) = fun j => .int ((ej_stx.getD (a - 3000) []).getD j 0) := by
              funext j
              unfold im_I
              rw [if_neg h1, if_neg h2, if_neg h3, if_neg h5, if_pos h4.1]
            rw [e2]
            have e3 : ej_sl (a - 3000) = ((ej_stx[a - 3000]?).map List.length).getD 0 := by
              unfold ej_sl
              rw [List.getD_eq_getElem?_getD]
              cases ej_stx[a - 3000]? <;> rfl
            rw [e3]
            exact this
          · rw [if_neg h4] at hsa
            cases hsa
  · have e1 : (fun i => (fun a => if a = 1000 then tA else if a = 1001 then tN else if a = 4000 then b else if 3000 ≤ a then adV (a - 3000) else adK (a - 2000)) (3000 + i)) = fun i => if i = 1000 then b else adV i := by
      funext i
      dsimp only
      rw [if_neg (by omega), if_neg (by omega)]
      by_cases h : i = 1000
      · rw [if_pos (by omega), if_pos h]
      · rw [if_neg (by omega), if_pos (by omega), if_neg h]
        congr 1
        omega
    have h9 : ej_stx.length = 11 := rfl
    refine ⟨fun i hi => ?_, fun i j hi hj he => ?_⟩
    · obtain ⟨g1, g2, g3, g4⟩ := SK.1 i hi
      have f1 : (fun a => if a = 1000 then tA else if a = 1001 then tN else if a = 4000 then b else if 3000 ≤ a then adV (a - 3000) else adK (a - 2000)) (2000 + i) = adK i := by
        dsimp only
        rw [if_neg (by omega), if_neg (by omega), if_neg (by omega), if_neg (by omega)]
        congr 1
        omega
      have f2 : (fun a => if a = 1000 then tA else if a = 1001 then tN else if a = 4000 then b else if 3000 ≤ a then adV (a - 3000) else adK (a - 2000)) (3000 + i) = adV i := by
        dsimp only
        rw [if_neg (by omega), if_neg (by omega), if_neg (by omega), if_pos (by omega)]
        congr 1
        omega
      rw [f1, f2]
      exact ⟨g1, g2, g3, g4⟩
    · have f : ∀ i, i < ej_stx.length → (fun a => if a = 1000 then tA else if a = 1001 then tN else if a = 4000 then b else if 3000 ≤ a then adV (a - 3000) else adK (a - 2000)) (2000 + i) = adK i := by
        intro i hi
        dsimp only
        rw [if_neg (by omega), if_neg (by omega), if_neg (by omega), if_neg (by omega)]
        congr 1
        omega
      rw [f i hi, f j hj] at he
      exact SK.2 i j hi hj he
  · intro q hq
    obtain ⟨i, hi, rfl⟩ := List.mem_iff_getElem.mp hq
    have hi' : i < ej_stx.length := hi
    have h9 : ej_stx.length = 11 := rfl
    have e0 : ej_sts[i].2.2.2 = i := ((by decide +kernel : ∀ i (h : i < ej_sts.length), ej_sts[i].2.2.2 = i)) i hi
    have e1 : (fun a => if a = 1000 then tA else if a = 1001 then tN else if a = 4000 then b else if 3000 ≤ a then adV (a - 3000) else adK (a - 2000)) (2000 + ej_sts[i].2.2.2) = adK i := by
      dsimp only
      rw [e0, if_neg (by omega), if_neg (by omega), if_neg (by omega), if_neg (by omega)]
      congr 1
      omega
    refine (congrArg (fun z => vk_R ej_sts[i].1 ej_sts[i].2.1 ej_sts[i].2.2.1 z s) e1).mpr ?_
    have e2 := eK i hi'
    have e3 : im_tm i = .string ej_sts[i].1 ej_sts[i].2.1 := by
      unfold im_tm
      simp [hi]
      exact ⟨rfl, rfl⟩
    rw [e3] at e2
    exact vk_R.of (A := args) (hts _ ((by decide +kernel : ∀ i (h : i < ej_sts.length), Cond.stringRef ej_sts[i].1 ej_sts[i].2.1 ej_sts[i].2.2.1 ∈ lw_tbl) i hi)) e2
  · intro w hw
    obtain ⟨h1, h2⟩ := List.mem_filter.mp hw
    exact va_Nw.of (ej_nw_tab h2) (hts w h1)
set_option maxRecDepth 100000 in
set_option maxHeartbeats 4000000 in
theorem im_K {args : Array Value} {s : State} (hts : ∀ w ∈ lw_tbl, w.before args s = true) : ∃ (D : va_G) (cy : Nat → ClassId), va_K D vwCl (ej_tys cy) s := by
  have ht : ∀ w ∈ ej_tbl, w.before args s = true := fun w h => hts w (List.mem_filter.mp h).1
  obtain ⟨c0, iS0, hKn0⟩ := u_known (C := RX0) (T := TX0) (N := 5) (n := 5) ht clw_0 (ht (.instantiable RX0 5) (by decide +kernel))
  obtain ⟨c1, iS1, hKn1⟩ := u_known (C := RX1) (T := TX1) (N := 6) (n := 6) ht clw_1 (ht (.instantiable RX1 6) (by decide +kernel))
  obtain ⟨c2, iS2, hKn2⟩ := u_known (C := RX2) (T := TX2) (N := 8) (n := 8) ht clw_2 (ht (.instantiable RX2 8) (by decide +kernel))
  obtain ⟨c3, iS3, hKn3⟩ := u_known (C := RX3) (T := TX3) (N := 7) (n := 7) ht clw_3 (ht (.instantiable RX3 7) (by decide +kernel))
  obtain ⟨c4, iS4, hKn4⟩ := u_known (C := RX4) (T := TX4) (N := 16) (n := 16) ht clw_4 (ht (.instantiable RX4 16) (by decide +kernel))
  obtain ⟨c5, iS5, hKn5⟩ := u_known (C := RX5) (T := TX5) (N := 3) (n := 3) ht clw_5 (ht (.instantiable RX5 3) (by decide +kernel))
  obtain ⟨c6, iS6, hKn6⟩ := u_known (C := RX6) (T := TX6) (N := 3) (n := 3) ht clw_6 (ht (.instantiable RX6 3) (by decide +kernel))
  obtain ⟨c7, iS7, hKn7⟩ := u_known (C := RX7) (T := TX7) (N := 3) (n := 3) ht clw_7 (ht (.instantiable RX7 3) (by decide +kernel))
  obtain ⟨c8, iS8, hKn8⟩ := u_known (C := RX8) (T := TX8) (N := 4) (n := 4) ht clw_8 (ht (.instantiable RX8 4) (by decide +kernel))
  obtain ⟨c9, iS9, hKn9⟩ := u_known (C := RX9) (T := TX9) (N := 7) (n := 7) ht clw_9 (ht (.instantiable RX9 7) (by decide +kernel))
  obtain ⟨c10, iS10, hKn10⟩ := u_known (C := RX10) (T := TX10) (N := 10) (n := 10) ht clw_10 (ht (.instantiable RX10 10) (by decide +kernel))
  obtain ⟨c11, iS11, hKn11⟩ := u_known (C := RX11) (T := TX11) (N := 51) (n := 51) ht clw_11 (ht (.instantiable RX11 51) (by decide +kernel))
  have hE : ∀ ty : FieldType, (Cond.arrayClass ty).before args s = true → ∃ cA : ClassId, ArrOfT s cA ty ∧ s.vm.findClass ("[" ++ ty.toString) = some cA := by
    intro ty h
    obtain ⟨cA, kA, comp, h1, h2, h3⟩ := Cond.arrayClass_spec h
    exact ⟨cA, fun n z => ⟨fun k h => (by cases h), kA, h2, comp, h3⟩, h1⟩
  obtain ⟨y0, a0, b0⟩ := hE .int (ht _ la_int)
  obtain ⟨y1, a1, b1⟩ := hE .byte (ht _ la_byte)
  obtain ⟨y2, a2, b2⟩ := hE .short (ht _ la_short)
  obtain ⟨y3, a3, b3⟩ := hE .long (ht _ la_long)
  refine ⟨(fun k => if k = 0 then c0 else if k = 1 then c1 else if k = 2 then c2 else if k = 3 then c3 else if k = 4 then c4 else if k = 5 then c5 else if k = 6 then c6 else if k = 7 then c7 else if k = 8 then c8 else if k = 9 then c9 else if k = 10 then c10 else c11, fun k => if k = 0 then iS0 else if k = 1 then iS1 else if k = 2 then iS2 else if k = 3 then iS3 else if k = 4 then iS4 else if k = 5 then iS5 else if k = 6 then iS6 else if k = 7 then iS7 else if k = 8 then iS8 else if k = 9 then iS9 else if k = 10 then iS10 else iS11), fun k => if k = 0 then y0 else if k = 1 then y1 else if k = 2 then y2 else y3, fun k q hq => ?_, fun k q hq => ?_⟩
  · match k, hq with
    | 0, hq => cases hq; exact hKn0
    | 1, hq => cases hq; exact hKn1
    | 2, hq => cases hq; exact hKn2
    | 3, hq => cases hq; exact hKn3
    | 4, hq => cases hq; exact hKn4
    | 5, hq => cases hq; exact hKn5
    | 6, hq => cases hq; exact hKn6
    | 7, hq => cases hq; exact hKn7
    | 8, hq => cases hq; exact hKn8
    | 9, hq => cases hq; exact hKn9
    | 10, hq => cases hq; exact hKn10
    | 11, hq => cases hq; exact hKn11
    | k + 12, hq => simp [vwCl] at hq
  · match k, hq with
    | 0, hq => cases hq; exact ⟨a0, b0⟩
    | 1, hq => cases hq; exact ⟨a1, b1⟩
    | 2, hq => cases hq; exact ⟨a2, b2⟩
    | 3, hq => cases hq; exact ⟨a3, b3⟩
    | k + 4, hq => simp [ej_tys] at hq
set_option maxRecDepth 100000 in
set_option maxHeartbeats 4000000 in
/-- from the entry, once the law's loop is known to end with 1 -/
theorem start_of {p : Program} {e : Env} {s : State} {m : MethodId} {below : List Frame} {meth : Method} {c : Code} (l : Launch) {b L : Nat} {xs : Nat → Int32} (hL : L ≤ 3072) (C0 : lw_At p s m meth c b L xs) (hp : ∃ m', f_L_law_L18 0 ((mk_83 (im_m L xs))) = some (1, m')) : W p l e room_1 s m #[Value.ref b] below meth c s.heap [] 0 0 (lw_Z below #[Value.ref b] s) (entryFrame m ([Value.ref b] : List Value).toArray 4) := by
  obtain ⟨hx, hb, hr, hml, hown, hts, hX, hbl, hlocks, hgv⟩ := id C0
  obtain ⟨m', hf⟩ := hp
  obtain ⟨D, cy, hK⟩ := im_K hts
  obtain ⟨ad, had, hT⟩ := im_start (by omega) hts hgv hX hbl
  have hZ := im_Z 1000 (by decide) hf
  have hl := lv_entry ([.ref b]) (n := 4) (Nat.le_of_ble_eq_true rfl)
  rw [lg_entry_eq]
  generalize (lg_sl ([.ref b]) ++ List.replicate (4 - (lg_sl ([.ref b])).length) Slot.unset).toArray = ls at hl ⊢
  have hl : lv_has ls 4 (ej_lm ad [(0, .ref 4000)]) := by
    show lv_has ls 4 [(0, .ref (ad 4000))]
    rw [had]
    exact hl
  have hw0 : ej_ws cy ad (hs_0, im_m L xs) = [] := rfl
  refine hZ.2 p l e room_1 s m _ below meth c (fun q => s.heap.size ≤ q) D cy ad s.heap [] 0 0 70 12251 _ _
    ⟨hx, hb, hml, hr, hown, fun w hw => hts w (List.mem_filter.mp hw).1, hlocks, hK, fun _ h => h, fun h => absurd h (by decide)⟩ hT (Nat.zero_le 1000) (Nat.le_of_ble_eq_true rfl) (Nat.le_of_ble_eq_true rfl) rfl rfl (Nat.le_of_ble_eq_true rfl) (Nat.le_of_ble_eq_true rfl) hl
    (by rw [hw0]; exact fun k q h => by simp at h) (by rw [hw0]; exact ⟨fun i j p q h => by simp at h, fun k q h => by simp at h⟩) va_S.rf fun ad' Hc' locs' lsc' pc' hag hP' hD' hS' hrt => ?_
  refine va_forget (fun q hq => hS'.2.2 q hq) ?_
  refine W.widen (k := 600000) (n := 7302250) (by decide) (by decide) ?_
  exact lw_ret hx hb hr hlocks hrt.1
