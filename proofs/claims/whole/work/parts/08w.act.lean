/-! act -/
def nu (k a : Nat) : Nat := ([1, 10, 11, 2, 20, 10, 11, 2, 1, 30, 11, 2, 1, 41, 40, 2, 20, 10, 11, 50, 1, 41, 60, 61, 70, 10, 11, 2, 81, 80, 11, 2] : List Nat).getD (4 * k + a) 0
def un_num (j : Nat) : Int32 := ([1, 10, 11, 2, 20, 0, 0, 0, 0, 30, 0, 0, 0, 41, 40, 0, 0, 0, 0, 50, 0, 0, 60, 61, 70, 0, 0, 0, 81, 80, 0, 0] : List Int32).getD j 0
def nu_x : Nat → Int32 → Nat → Int32
  | 0, _, _ => 0
  | f + 1, v, a => if v = -1 then 0 else if un_num (4 * v.toNatClampNeg + a) = 0 then nu_x f (un_ab v.toNatClampNeg) a else un_num (4 * v.toNatClampNeg + a)
theorem nu_eq : ∀ k, k < 8 → ∀ a, a < 4 → nu_x 8 (nI k) a = nI (nu k a) := by decide
theorem nu_ne : ∀ k, k < 8 → ∀ a, a < 4 → ¬ nI (nu k a) = 0 := by decide
theorem im_1001 {L : Nat} {xs : Nat → Int32} {j : Nat} : im_I L xs 1001 j = un_num j := by
  unfold im_I un_num
  rw [if_neg (by decide), if_pos rfl]
theorem ld_1001 {m : ej_M} {t : Nat} (ht : t < 32) : f_X10_at 1001 (nI t) m = some (m.1 1001 t, m) := by
  unfold f_X10_at
  rw [if_neg (nI_pos (by omega))]
  have e : ej_al (ej_sh, m) 1001 = some (0, 32) := rfl
  have e1 : oj_ln m 1001 = some (nI 32) := by unfold oj_ln; rw [e]; rfl
  rw [e1, o_bs, if_neg (fun q => by have := (nI_leI (by decide) (by omega)).mp q; omega)]
  have e2 : oj_ld 0 m 1001 (nI t) = some (m.1 1001 t) := by
    unfold oj_ld
    rw [e]
    simp only
    rw [nI_clamp (by omega), if_pos ⟨trivial, fun q => q.elim (fun z => nI_pos (by omega) z) (fun z => by omega)⟩]
  rw [e2, o_bs]
theorem x_numberL {m : ej_M} {L : Nat} {xs : Nat → Int32} (hG : IG L xs m) {a : Nat} (ha : a < 4) : ∀ f i K v, f + i = 8 → (v = -1 ∨ ∃ t, t < 8 ∧ v = nI t) → oj_loop (fun q : (Int32 × Int32 × ej_M) => f_X0_numberOf_L5b (nI a) q.1 q.2.1 q.2.2) (f + K + 1) (v, nI i, m) = some (nu_x f v a, m) := by
  intro f
  induction f with
  | zero =>
    intro i K v hi hv
    have : i = 8 := by omega
    subst this
    refine wp_get (wp_loop1 ?_)
    simp only
    unfold f_X0_numberOf_L5b
    rw [if_pos (show (8 : Int32) ≤ nI 8 from Int32.le_refl _)]
    exact wp_inr rfl
  | succ f ih =>
    intro i K v hi hv
    refine wp_get (wp_loop1 ?_)
    simp only
    unfold f_X0_numberOf_L5b
    rw [if_neg (show ¬ (8 : Int32) ≤ nI i from fun q => by have := (nI_leI (a := 8) (by decide) (by omega)).mp q; omega)]
    unfold nu_x
    by_cases e1 : v = -1
    · rw [if_pos e1, if_pos e1]
      exact wp_inr rfl
    · rw [if_neg e1, if_neg e1]
      obtain ⟨t, ht, rfl⟩ := hv.resolve_left e1
      rw [nI_clamp (by omega), show nI t * 4 + nI a = nI (4 * t + a) by rw [show (4 : Int32) = nI 4 from rfl, nI_mul, nI_add, Nat.mul_comm], ld_1001 (by omega), o_bs, hG 1001 (by decide), im_1001]
      simp only
      by_cases e2 : un_num (4 * t + a) = 0
      · rw [if_pos e2, if_pos e2, ld_1000 ht, o_bs, nI_1, hG 1000 (by decide), im_1000]
        refine wp_inl ?_
        have := ih (i + 1) K (un_ab t) (by omega) (un_abN t ht)
        rw [show f + 1 + K = f + K + 1 by omega]
        exact wp_eq this rfl
      · rw [if_neg e2, if_neg e2]
        exact wp_inr rfl
theorem x_number {m : ej_M} {L : Nat} {xs : Nat → Int32} (hG : IG L xs m) {k a : Nat} (hk : k < 8) (ha : a < 4) : f_X0_numberOf (nI k) (nI a) m = some (nI (nu k a), m) := by
  unfold f_X0_numberOf f_X0_numberOf_L5
  rw [← nu_eq k hk a ha]
  exact x_numberL hG ha 8 0 (oj_FU - 9) (nI k) (by omega) (Or.inr ⟨k, hk, rfl⟩)
theorem x_ab {L : Nat} {xs : Nat → Int32} {m : ej_M} (hG : IG L xs m) {j u : Nat} (hj : j < 8) (hu : un_ab j = nI u) : f_X10_at 1000 (nI j) m = some (nI u, m) := by
  rw [ld_1000 hj, hG 1000 (by decide), im_1000]
  exact congrArg (fun z => some (z, m)) hu
-- the trace grows
def ap (r : Nat) (l : List Int32) (f : Nat → Int32) (i : Nat) : Int32 := if r ≤ i ∧ i < r + l.length then l.getD (i - r) 0 else f i
def AT (T o j r : Nat) (l : List Int32) (m m' : ej_M) : Prop := oj_sm (fun a i => a = T ∨ (a = o ∧ i = j)) m m' ∧ m'.1 o j = nI (r + l.length) ∧ ∀ i, i < 24 → m'.1 T i = ap r l (m.1 T) i
theorem AT_nil {T o j r : Nat} {m : ej_M} (h : m.1 o j = nI r) : AT T o j r [] m m := ⟨sm_refl, by simpa using h, fun i _ => by unfold ap; rw [if_neg (by simp)]⟩
theorem AT_app {T o j r : Nat} {l1 l2 : List Int32} {m m1 m2 : ej_M} (h1 : AT T o j r l1 m m1) (h2 : AT T o j (r + l1.length) l2 m1 m2) : AT T o j r (l1 ++ l2) m m2 := by
  obtain ⟨a1, a2, a3⟩ := h1
  obtain ⟨b1, b2, b3⟩ := h2
  refine ⟨sm_trans a1 b1, by rw [b2, List.length_append]; congr 1; omega, fun i hi => ?_⟩
  rw [b3 i hi]
  unfold ap
  rw [a3 i hi]
  unfold ap
  rw [List.length_append]
  by_cases c1 : r + l1.length ≤ i ∧ i < r + l1.length + l2.length
  · rw [if_pos c1, if_pos (by omega)]
    obtain ⟨d, rfl⟩ : ∃ d, i = r + l1.length + d := ⟨i - (r + l1.length), by omega⟩
    rw [show r + l1.length + d - (r + l1.length) = d by omega, show r + l1.length + d - r = l1.length + d by omega, oj_getD_app2]
  · rw [if_neg c1]
    by_cases c2 : r ≤ i ∧ i < r + l1.length
    · rw [if_pos c2, if_pos (by omega), oj_getD_app (by omega)]
    · rw [if_neg c2, if_neg (by omega)]
theorem x_log {m : ej_M} {r : Nat} (hr : m.1 34 3 = nI r) (h9 : r < 1000) (c : Int32) : ∃ m1, f_X10_lay 36 (m.1 34 3) c m = some ((), m1) ∧ AT 36 34 3 r [c] m (ej_w m1 34 3 (m1.1 34 3 + 1)) := by
  rw [hr, p_lay ar_36 (by omega)]
  refine ⟨_, rfl, ?_⟩
  by_cases h : r < 24
  · rw [if_pos h]
    refine ⟨sm_trans (sm_row fun i hi => absurd (Or.inl rfl) hi) (sm_w (Or.inr ⟨rfl, rfl⟩)), ?_, fun i hi => ?_⟩
    · rw [w_same, oj_row_n (by decide), hr, nI_1]; rfl
    · rw [w_place (by decide), oj_row_s]
      unfold upd ap
      by_cases e : i = r
      · rw [if_pos e, if_pos (by simp; omega), e, Nat.sub_self]; rfl
      · rw [if_neg e, if_neg (by simp; omega)]
  · rw [if_neg h]
    refine ⟨sm_w (Or.inr ⟨rfl, rfl⟩), ?_, fun i hi => ?_⟩
    · rw [w_same, hr, nI_1]; rfl
    · rw [w_place (by decide)]
      unfold ap
      rw [if_neg (by simp; omega)]
-- what runs, purely: by fuel, from a kind on
def nu_up (c : Nat) : Nat := if c = 40 then 2 else if c = 41 then 2 else if c = 50 then 1 else if c = 60 then 3 else if c = 61 then 3 else if c = 80 then 6 else if c = 81 then 6 else 0
def pr (t : Nat) (v : Int32) : Nat → Nat → Nat → Int32 → Option (Int32 × List Int32)
  | 0, _, _, _ => none
  | f + 1, k, a, x =>
    if nu k a = 1 then some (x + v, [nI 1])
    else if nu k a = 2 then (pr t v f t 1 x).bind fun h => (pr t v f t 2 1).bind fun s => some (h.1 - s.1, nI 2 :: (h.2 ++ s.2))
    else if nu k a = 10 then (pr t v f t 0 x).bind fun s => some (s.1 * 2, nI 10 :: s.2)
    else if nu k a = 11 then some (x ^^^ v, [nI 11])
    else if nu k a = 20 then (pr t v f 0 0 x).bind fun s => some (s.1 + 3, nI 20 :: s.2)
    else if nu k a = 30 then (pr t v f 0 1 x).bind fun s => some (-s.1, nI 30 :: s.2)
    else if nu k a = 40 then (pr t v f 2 2 x).bind fun s => some (s.1 * 3, nI 40 :: s.2)
    else if nu k a = 41 then (pr t v f 2 1 (x + 1)).bind fun s => some (s.1, nI 41 :: s.2)
    else if nu k a = 50 then (pr t v f 1 3 x).bind fun s => some (s.1 ^^^ 5, nI 50 :: s.2)
    else if nu k a = 60 then (pr t v f 3 2 x).bind fun h => (pr t v f t 0 2).bind fun s => some (h.1 - s.1, nI 60 :: (h.2 ++ s.2))
    else if nu k a = 61 then (pr t v f 3 3 x).bind fun s => some (s.1 + 1, nI 61 :: s.2)
    else if nu k a = 70 then (pr t v f 0 0 x).bind fun s => some (s.1 * 2, nI 70 :: s.2)
    else if nu k a = 80 then (pr t v f 6 1 x).bind fun h => (pr t v f t 2 2).bind fun s => some (h.1 + s.1, nI 80 :: (h.2 ++ s.2))
    else if nu k a = 81 then (pr t v f 6 0 x).bind fun s => some (s.1 - 1, nI 81 :: s.2)
    else none
/-- what the class needs, to run a body of kind t, number b -/
def XPb (L : Nat) (xs : Nat → Int32) (nb b t : Nat) (m : ej_M) : Prop := IG L xs m ∧ m.1 34 4 = nI b ∧ m.1 34 1 = nI nb ∧ b < nb ∧ nb ≤ 50 ∧ m.1 35 b = nI t ∧ t < 8
theorem XPb_go {L : Nat} {xs : Nat → Int32} {nb b t r : Nat} {l : List Int32} {m m' : ej_M} (h : XPb L xs nb b t m) (k : AT 36 34 3 r l m m') : XPb L xs nb b t m' := by
  obtain ⟨a1, a2, a3, a4, a5, a6, a7⟩ := h
  have f := k.1.2
  exact ⟨IG_fr (fun a j q => f a j (by omega)) a1, (f 34 4 (by omega)).trans a2, (f 34 1 (by omega)).trans a3, a4, a5, (f 35 b (by omega)).trans a6, a7⟩
theorem x_kind {L : Nat} {xs : Nat → Int32} {nb b t : Nat} {m : ej_M} (h : XPb L xs nb b t m) : f_X0_kindOf (m.1 34 4) m = some (nI t, m) := by
  obtain ⟨a1, a2, a3, a4, a5, a6, a7⟩ := h
  unfold f_X0_kindOf
  rw [a2, x_bodyY a3 (by omega) a4, o_bs, if_neg i10]
  simp only
  rw [p_at1 ar_35 (by omega), o_bs, a6]
theorem g_own (n : Nat) (v1 v2 v3 : Int32) (m : ej_M) : (g_X0_own (n + 1)).1 v1 v2 v3 m = f_X0_own_e (g_X0_own n) v1 v2 v3 m := rfl
theorem g_run (n : Nat) (v1 v2 v3 v4 : Int32) (m : ej_M) : (g_X0_own (n + 1)).2.1 v1 v2 v3 v4 m = f_X0_run_e (g_X0_own n) v1 v2 v3 v4 m := rfl
theorem g_runU (n : Nat) (v1 v2 v3 : Int32) (m : ej_M) : (g_X0_own (n + 1)).2.2 v1 v2 v3 m = f_X0_runUnder_e (g_X0_own n) v1 v2 v3 m := rfl
def XW (F : ej_M → Option (Int32 × ej_M)) (r : Nat) (e : Int32 × List Int32) (m : ej_M) : Prop := oj_wp (F m) fun q => q.1 = e.1 ∧ AT 36 34 3 r e.2 m q.2
theorem b_some {α β : Type} {x : Option α} {f : α → Option β} {y : β} (h : x.bind f = some y) : ∃ a, x = some a ∧ f a = some y := Option.bind_eq_some_iff.mp h
theorem x_run (L : Nat) (xs : Nat → Int32) (nb b t : Nat) : ∀ f k a x n D r (m : ej_M) e, pr t (nI b) f k a x = some e → k < 8 → a < 4 → 3 * f ≤ n → D + f ≤ 41 → XPb L xs nb b t m → m.1 34 3 = nI r → r + e.2.length ≤ 100 → XW (fun m => (g_X0_own n).2.1 (nI k) (nI a) x (nI D) m) r e m := by
  intro f
  induction f with
  | zero => intro k a x n D r m e h; cases h
  | succ f ih =>
    intro k a x n D r m e h hk ha hn hD hP hr hl
    have ht : t < 8 := hP.2.2.2.2.2.2
    -- the body's own kind
    have own : ∀ a' x' n' (m' : ej_M) r' e', pr t (nI b) f t a' x' = some e' → a' < 4 → 3 * f + 1 ≤ n' → XPb L xs nb b t m' → m'.1 34 3 = nI r' → r' + e'.2.length ≤ 100 → oj_wp ((g_X0_own n').1 (nI a') x' (nI D) m') fun q => q.1 = e'.1 ∧ AT 36 34 3 r' e'.2 m' q.2 := fun a' x' n' m' r' e' h' ha' hn' hP' hr' hl' => by
      obtain ⟨n'', rfl⟩ : ∃ n'', n' = n'' + 1 := ⟨n' - 1, by omega⟩
      rw [g_own]
      unfold f_X0_own_e
      rw [x_kind hP', o_bs, nI_1]
      simp only
      refine wp_bind (wp_mono (ih t a' x' n'' (D + 1) r' m' e' h' ht ha' (by omega) (by omega) hP' hr' hl') fun q hq => wp_some hq)
    obtain ⟨n, rfl⟩ : ∃ n', n = n' + 2 := ⟨n - 2, by omega⟩
    unfold XW
    simp only
    rw [g_run]
    unfold f_X0_run_e
    rw [x_number hP.1 hk ha, o_bs]
    simp only
    rw [if_neg (nu_ne k hk a ha), if_pos (show nI D ≤ 40 from (nI_leI (b := 40) (by omega) (by decide)).mpr (by omega))]
    obtain ⟨m1, l1, l2⟩ := x_log hr (by omega) (nI (nu k a))
    rw [l1, o_bs]
    unfold oj_pf
    rw [o_bs]
    simp only
    unfold pr at h
    generalize nu k a = c at h l1 l2 ⊢
    have hP1 := XPb_go hP l2
    have hr1 : (ej_w m1 34 3 (m1.1 34 3 + 1)).1 34 3 = nI (r + 1) := l2.2.1
    have h4 : (ej_w m1 34 3 (m1.1 34 3 + 1)).1 34 4 = nI b := hP1.2.1
    generalize ej_w m1 34 3 (m1.1 34 3 + 1) = m3 at l2 hP1 hr1 h4 ⊢
    have fin : ∀ {l' : List Int32} {m2 : ej_M}, AT 36 34 3 (r + 1) l' m3 m2 → AT 36 34 3 r (nI c :: l') m m2 := fun {l'} {m2} hh => AT_app (l1 := [nI c]) l2 hh
    have sup : ∀ k' a' x' r' (m' : ej_M) e', pr t (nI b) f k' a' x' = some e' → k' < 8 → a' < 4 → XPb L xs nb b t m' → m'.1 34 3 = nI r' → r' + e'.2.length ≤ 100 → oj_wp ((g_X0_own n).2.1 (nI k') (nI a') x' (nI (D + 1)) m') fun q => q.1 = e'.1 ∧ AT 36 34 3 r' e'.2 m' q.2 := fun k' a' x' r' m' e' h' hk' ha' hP' hr' hl' => ih k' a' x' n (D + 1) r' m' e' h' hk' ha' (by omega) (by omega) hP' hr' hl'
    by_cases c1 : c = 1
    · subst c1
      rw [if_pos rfl] at h
      obtain rfl := Option.some.inj h
      rw [if_pos (show nI 1 = 1 from rfl), h4]
      exact wp_some ⟨rfl, l2⟩
    rw [if_neg c1] at h
    by_cases c2 : c = 2
    · subst c2
      rw [if_pos rfl] at h
      obtain ⟨eh, g1, g2⟩ := b_some h
      obtain ⟨es, g3, g4⟩ := b_some g2
      obtain rfl := Option.some.inj g4
      simp only [List.length_cons, List.length_append] at hl
      rw [if_neg (show ¬ nI 2 = 1 by decide), if_pos (show nI 2 = 2 from rfl)]
      refine wp_bind (wp_mono (own 1 x (n + 1) m3 (r + 1) eh g1 (by decide) (by omega) hP1 hr1 (by omega)) fun q hq => ?_)
      obtain ⟨q1, q2⟩ := hq
      refine wp_bind (wp_mono (own 2 1 (n + 1) q.2 (r + 1 + eh.2.length) es g3 (by decide) (by omega) (XPb_go hP1 q2) q2.2.1 (by omega)) fun w hw => ?_)
      exact wp_some ⟨by simp only; rw [q1, hw.1], fin (AT_app q2 hw.2)⟩
    rw [if_neg c2] at h
    by_cases c10 : c = 10
    · subst c10
      rw [if_pos rfl] at h
      obtain ⟨es, g3, g4⟩ := b_some h
      obtain rfl := Option.some.inj g4
      simp only [List.length_cons, List.length_append] at hl
      rw [if_neg (show ¬ nI 10 = 1 by decide), if_neg (show ¬ nI 10 = 2 by decide), if_pos (show nI 10 = 10 from rfl)]
      refine wp_bind (wp_mono (own 0 x (n + 1) m3 (r + 1) es g3 (by decide) (by omega) hP1 hr1 (by omega)) fun w hw => ?_)
      exact wp_some ⟨by simp only; rw [hw.1], fin hw.2⟩
    rw [if_neg c10] at h
    by_cases c11 : c = 11
    · subst c11
      rw [if_pos rfl] at h
      obtain rfl := Option.some.inj h
      rw [if_neg (show ¬ nI 11 = 1 by decide), if_neg (show ¬ nI 11 = 2 by decide), if_neg (show ¬ nI 11 = 10 by decide), if_pos (show nI 11 = 11 from rfl), h4]
      exact wp_some ⟨rfl, l2⟩
    rw [if_neg c11] at h
    by_cases c20 : c = 20
    · subst c20
      rw [if_pos rfl] at h
      obtain ⟨es, g3, g4⟩ := b_some h
      obtain rfl := Option.some.inj g4
      simp only [List.length_cons, List.length_append] at hl
      rw [if_neg (show ¬ nI 20 = 1 by decide), if_neg (show ¬ nI 20 = 2 by decide), if_neg (show ¬ nI 20 = 10 by decide), if_neg (show ¬ nI 20 = 11 by decide), g_runU]
      unfold f_X0_runUnder_e
      rw [show oj_dv (nI 20) 10 = some (nI 2) by decide, o_bs, show nI 2 - 1 = nI 1 by decide, x_ab hP1.1 (j := 1) (u := 0) (by decide) (by decide), o_bs]
      simp only
      rw [if_pos (show nI 20 = 20 from rfl), nI_1]
      refine wp_bind (wp_bind (wp_mono (sup 0 0 x (r + 1) m3 es g3 (by decide) (by decide) hP1 hr1 (by omega)) fun w hw => ?_))
      exact wp_some (wp_some ⟨by simp only; rw [hw.1], fin hw.2⟩)
    rw [if_neg c20] at h
    by_cases c30 : c = 30
    · subst c30
      rw [if_pos rfl] at h
      obtain ⟨es, g3, g4⟩ := b_some h
      obtain rfl := Option.some.inj g4
      simp only [List.length_cons, List.length_append] at hl
      rw [if_neg (show ¬ nI 30 = 1 by decide), if_neg (show ¬ nI 30 = 2 by decide), if_neg (show ¬ nI 30 = 10 by decide), if_neg (show ¬ nI 30 = 11 by decide), g_runU]
      unfold f_X0_runUnder_e
      rw [show oj_dv (nI 30) 10 = some (nI 3) by decide, o_bs, show nI 3 - 1 = nI 2 by decide, x_ab hP1.1 (j := 2) (u := 0) (by decide) (by decide), o_bs]
      simp only
      rw [if_neg (show ¬ nI 30 = 20 by decide), if_pos (show nI 30 = 30 from rfl), nI_1]
      refine wp_bind (wp_bind (wp_mono (sup 0 1 x (r + 1) m3 es g3 (by decide) (by decide) hP1 hr1 (by omega)) fun w hw => ?_))
      exact wp_some (wp_some ⟨by simp only; rw [hw.1], fin hw.2⟩)
    rw [if_neg c30] at h
    by_cases c40 : c = 40
    · subst c40
      rw [if_pos rfl] at h
      obtain ⟨es, g3, g4⟩ := b_some h
      obtain rfl := Option.some.inj g4
      simp only [List.length_cons, List.length_append] at hl
      rw [if_neg (show ¬ nI 40 = 1 by decide), if_neg (show ¬ nI 40 = 2 by decide), if_neg (show ¬ nI 40 = 10 by decide), if_neg (show ¬ nI 40 = 11 by decide), g_runU]
      unfold f_X0_runUnder_e
      rw [show oj_dv (nI 40) 10 = some (nI 4) by decide, o_bs, show nI 4 - 1 = nI 3 by decide, x_ab hP1.1 (j := 3) (u := 2) (by decide) (by decide), o_bs]
      simp only
      rw [if_neg (show ¬ nI 40 = 20 by decide), if_neg (show ¬ nI 40 = 30 by decide), if_pos (show nI 40 = 40 from rfl), nI_1]
      refine wp_bind (wp_bind (wp_mono (sup 2 2 x (r + 1) m3 es g3 (by decide) (by decide) hP1 hr1 (by omega)) fun w hw => ?_))
      exact wp_some (wp_some ⟨by simp only; rw [hw.1], fin hw.2⟩)
    rw [if_neg c40] at h
    by_cases c41 : c = 41
    · subst c41
      rw [if_pos rfl] at h
      obtain ⟨es, g3, g4⟩ := b_some h
      obtain rfl := Option.some.inj g4
      simp only [List.length_cons, List.length_append] at hl
      rw [if_neg (show ¬ nI 41 = 1 by decide), if_neg (show ¬ nI 41 = 2 by decide), if_neg (show ¬ nI 41 = 10 by decide), if_neg (show ¬ nI 41 = 11 by decide), g_runU]
      unfold f_X0_runUnder_e
      rw [show oj_dv (nI 41) 10 = some (nI 4) by decide, o_bs, show nI 4 - 1 = nI 3 by decide, x_ab hP1.1 (j := 3) (u := 2) (by decide) (by decide), o_bs]
      simp only
      rw [if_neg (show ¬ nI 41 = 20 by decide), if_neg (show ¬ nI 41 = 30 by decide), if_neg (show ¬ nI 41 = 40 by decide), if_pos (show nI 41 = 41 from rfl), nI_1]
      refine wp_bind (wp_bind (wp_mono (sup 2 1 (x + 1) (r + 1) m3 es g3 (by decide) (by decide) hP1 hr1 (by omega)) fun w hw => ?_))
      exact wp_some (wp_some ⟨by simp only; rw [hw.1], fin hw.2⟩)
    rw [if_neg c41] at h
    by_cases c50 : c = 50
    · subst c50
      rw [if_pos rfl] at h
      obtain ⟨es, g3, g4⟩ := b_some h
      obtain rfl := Option.some.inj g4
      simp only [List.length_cons, List.length_append] at hl
      rw [if_neg (show ¬ nI 50 = 1 by decide), if_neg (show ¬ nI 50 = 2 by decide), if_neg (show ¬ nI 50 = 10 by decide), if_neg (show ¬ nI 50 = 11 by decide), g_runU]
      unfold f_X0_runUnder_e
      rw [show oj_dv (nI 50) 10 = some (nI 5) by decide, o_bs, show nI 5 - 1 = nI 4 by decide, x_ab hP1.1 (j := 4) (u := 1) (by decide) (by decide), o_bs]
      simp only
      rw [if_neg (show ¬ nI 50 = 20 by decide), if_neg (show ¬ nI 50 = 30 by decide), if_neg (show ¬ nI 50 = 40 by decide), if_neg (show ¬ nI 50 = 41 by decide), if_pos (show nI 50 = 50 from rfl), nI_1]
      refine wp_bind (wp_bind (wp_mono (sup 1 3 x (r + 1) m3 es g3 (by decide) (by decide) hP1 hr1 (by omega)) fun w hw => ?_))
      exact wp_some (wp_some ⟨by simp only; rw [hw.1], fin hw.2⟩)
    rw [if_neg c50] at h
    by_cases c60 : c = 60
    · subst c60
      rw [if_pos rfl] at h
      obtain ⟨es, g3, g4⟩ := b_some h
      obtain ⟨ew, g5, g6⟩ := b_some g4
      obtain rfl := Option.some.inj g6
      simp only [List.length_cons, List.length_append] at hl
      rw [if_neg (show ¬ nI 60 = 1 by decide), if_neg (show ¬ nI 60 = 2 by decide), if_neg (show ¬ nI 60 = 10 by decide), if_neg (show ¬ nI 60 = 11 by decide), g_runU]
      unfold f_X0_runUnder_e
      rw [show oj_dv (nI 60) 10 = some (nI 6) by decide, o_bs, show nI 6 - 1 = nI 5 by decide, x_ab hP1.1 (j := 5) (u := 3) (by decide) (by decide), o_bs]
      simp only
      rw [if_neg (show ¬ nI 60 = 20 by decide), if_neg (show ¬ nI 60 = 30 by decide), if_neg (show ¬ nI 60 = 40 by decide), if_neg (show ¬ nI 60 = 41 by decide), if_neg (show ¬ nI 60 = 50 by decide), if_pos (show nI 60 = 60 from rfl), nI_1]
      refine wp_bind (wp_bind (wp_mono (sup 3 2 x (r + 1) m3 es g3 (by decide) (by decide) hP1 hr1 (by omega)) fun w hw => ?_))
      refine wp_bind (wp_mono (own 0 2 n w.2 (r + 1 + es.2.length) ew g5 (by decide) (by omega) (XPb_go hP1 hw.2) hw.2.2.1 (by omega)) fun u hu => ?_)
      exact wp_some (wp_some ⟨by simp only; rw [hw.1, hu.1], fin (AT_app hw.2 hu.2)⟩)
    rw [if_neg c60] at h
    by_cases c61 : c = 61
    · subst c61
      rw [if_pos rfl] at h
      obtain ⟨es, g3, g4⟩ := b_some h
      obtain rfl := Option.some.inj g4
      simp only [List.length_cons, List.length_append] at hl
      rw [if_neg (show ¬ nI 61 = 1 by decide), if_neg (show ¬ nI 61 = 2 by decide), if_neg (show ¬ nI 61 = 10 by decide), if_neg (show ¬ nI 61 = 11 by decide), g_runU]
      unfold f_X0_runUnder_e
      rw [show oj_dv (nI 61) 10 = some (nI 6) by decide, o_bs, show nI 6 - 1 = nI 5 by decide, x_ab hP1.1 (j := 5) (u := 3) (by decide) (by decide), o_bs]
      simp only
      rw [if_neg (show ¬ nI 61 = 20 by decide), if_neg (show ¬ nI 61 = 30 by decide), if_neg (show ¬ nI 61 = 40 by decide), if_neg (show ¬ nI 61 = 41 by decide), if_neg (show ¬ nI 61 = 50 by decide), if_neg (show ¬ nI 61 = 60 by decide), if_pos (show nI 61 = 61 from rfl), nI_1]
      refine wp_bind (wp_bind (wp_mono (sup 3 3 x (r + 1) m3 es g3 (by decide) (by decide) hP1 hr1 (by omega)) fun w hw => ?_))
      exact wp_some (wp_some ⟨by simp only; rw [hw.1], fin hw.2⟩)
    rw [if_neg c61] at h
    by_cases c70 : c = 70
    · subst c70
      rw [if_pos rfl] at h
      obtain ⟨es, g3, g4⟩ := b_some h
      obtain rfl := Option.some.inj g4
      simp only [List.length_cons, List.length_append] at hl
      rw [if_neg (show ¬ nI 70 = 1 by decide), if_neg (show ¬ nI 70 = 2 by decide), if_neg (show ¬ nI 70 = 10 by decide), if_neg (show ¬ nI 70 = 11 by decide), g_runU]
      unfold f_X0_runUnder_e
      rw [show oj_dv (nI 70) 10 = some (nI 7) by decide, o_bs, show nI 7 - 1 = nI 6 by decide, x_ab hP1.1 (j := 6) (u := 0) (by decide) (by decide), o_bs]
      simp only
      rw [if_neg (show ¬ nI 70 = 20 by decide), if_neg (show ¬ nI 70 = 30 by decide), if_neg (show ¬ nI 70 = 40 by decide), if_neg (show ¬ nI 70 = 41 by decide), if_neg (show ¬ nI 70 = 50 by decide), if_neg (show ¬ nI 70 = 60 by decide), if_neg (show ¬ nI 70 = 61 by decide), if_pos (show nI 70 = 70 from rfl), nI_1]
      refine wp_bind (wp_bind (wp_mono (sup 0 0 x (r + 1) m3 es g3 (by decide) (by decide) hP1 hr1 (by omega)) fun w hw => ?_))
      exact wp_some (wp_some ⟨by simp only; rw [hw.1], fin hw.2⟩)
    rw [if_neg c70] at h
    by_cases c80 : c = 80
    · subst c80
      rw [if_pos rfl] at h
      obtain ⟨es, g3, g4⟩ := b_some h
      obtain ⟨ew, g5, g6⟩ := b_some g4
      obtain rfl := Option.some.inj g6
      simp only [List.length_cons, List.length_append] at hl
      rw [if_neg (show ¬ nI 80 = 1 by decide), if_neg (show ¬ nI 80 = 2 by decide), if_neg (show ¬ nI 80 = 10 by decide), if_neg (show ¬ nI 80 = 11 by decide), g_runU]
      unfold f_X0_runUnder_e
      rw [show oj_dv (nI 80) 10 = some (nI 8) by decide, o_bs, show nI 8 - 1 = nI 7 by decide, x_ab hP1.1 (j := 7) (u := 6) (by decide) (by decide), o_bs]
      simp only
      rw [if_neg (show ¬ nI 80 = 20 by decide), if_neg (show ¬ nI 80 = 30 by decide), if_neg (show ¬ nI 80 = 40 by decide), if_neg (show ¬ nI 80 = 41 by decide), if_neg (show ¬ nI 80 = 50 by decide), if_neg (show ¬ nI 80 = 60 by decide), if_neg (show ¬ nI 80 = 61 by decide), if_neg (show ¬ nI 80 = 70 by decide), if_pos (show nI 80 = 80 from rfl), nI_1]
      refine wp_bind (wp_bind (wp_mono (sup 6 1 x (r + 1) m3 es g3 (by decide) (by decide) hP1 hr1 (by omega)) fun w hw => ?_))
      refine wp_bind (wp_mono (own 2 2 n w.2 (r + 1 + es.2.length) ew g5 (by decide) (by omega) (XPb_go hP1 hw.2) hw.2.2.1 (by omega)) fun u hu => ?_)
      exact wp_some (wp_some ⟨by simp only; rw [hw.1, hu.1], fin (AT_app hw.2 hu.2)⟩)
    rw [if_neg c80] at h
    by_cases c81 : c = 81
    · subst c81
      rw [if_pos rfl] at h
      obtain ⟨es, g3, g4⟩ := b_some h
      obtain rfl := Option.some.inj g4
      simp only [List.length_cons, List.length_append] at hl
      rw [if_neg (show ¬ nI 81 = 1 by decide), if_neg (show ¬ nI 81 = 2 by decide), if_neg (show ¬ nI 81 = 10 by decide), if_neg (show ¬ nI 81 = 11 by decide), g_runU]
      unfold f_X0_runUnder_e
      rw [show oj_dv (nI 81) 10 = some (nI 8) by decide, o_bs, show nI 8 - 1 = nI 7 by decide, x_ab hP1.1 (j := 7) (u := 6) (by decide) (by decide), o_bs]
      simp only
      rw [if_neg (show ¬ nI 81 = 20 by decide), if_neg (show ¬ nI 81 = 30 by decide), if_neg (show ¬ nI 81 = 40 by decide), if_neg (show ¬ nI 81 = 41 by decide), if_neg (show ¬ nI 81 = 50 by decide), if_neg (show ¬ nI 81 = 60 by decide), if_neg (show ¬ nI 81 = 61 by decide), if_neg (show ¬ nI 81 = 70 by decide), if_neg (show ¬ nI 81 = 80 by decide), if_pos (show nI 81 = 81 from rfl), nI_1]
      refine wp_bind (wp_bind (wp_mono (sup 6 0 x (r + 1) m3 es g3 (by decide) (by decide) hP1 hr1 (by omega)) fun w hw => ?_))
      exact wp_some (wp_some ⟨by simp only; rw [hw.1], fin hw.2⟩)
    rw [if_neg c81] at h
    cases h
-- the reference's bodies
def e_pS (v x : Int32) : Int32 × List Int32 := (x + v, [1])
def e_cS (v x : Int32) : Int32 × List Int32 := ((e_pS v x).1 * 2, 70 :: (e_pS v x).2)
def e_S (t : Nat) (v x : Int32) : Int32 × List Int32 := if t = 1 ∨ t = 4 then ((e_pS v x).1 + 3, 20 :: (e_pS v x).2) else if t = 7 then ((e_cS v x).1 - 1, 81 :: (e_cS v x).2) else if t = 6 then e_cS v x else e_pS v x
def e_pH (t : Nat) (v x : Int32) : Int32 × List Int32 := ((e_S t v x).1 * 2, 10 :: (e_S t v x).2)
def e_hH (t : Nat) (v x : Int32) : Int32 × List Int32 := (-(e_pH t v x).1, 30 :: (e_pH t v x).2)
def e_pT (v x : Int32) : Int32 × List Int32 := (x ^^^ v, [11])
def e_hT (v x : Int32) : Int32 × List Int32 := ((e_pT v x).1 * 3, 40 :: (e_pT v x).2)
def e_T (t : Nat) (v x : Int32) : Int32 × List Int32 := if t = 5 then ((e_hT v x).1 - (e_S t v 2).1, 60 :: ((e_hT v x).2 ++ (e_S t v 2).2)) else if t = 3 then e_hT v x else e_pT v x
def e_H (t : Nat) (v x : Int32) : Int32 × List Int32 := if t = 3 ∨ t = 5 then ((e_hH t v (x + 1)).1, 41 :: (e_hH t v (x + 1)).2) else if t = 7 then ((e_pH t v x).1 + (e_T t v 2).1, 80 :: ((e_pH t v x).2 ++ (e_T t v 2).2)) else if t = 2 then e_hH t v x else e_pH t v x
def e_pL (t : Nat) (v x : Int32) : Int32 × List Int32 := ((e_H t v x).1 - (e_T t v 1).1, 2 :: ((e_H t v x).2 ++ (e_T t v 1).2))
def e_L (t : Nat) (v x : Int32) : Int32 × List Int32 := if t = 4 then ((e_pL t v x).1 ^^^ 5, 50 :: (e_pL t v x).2) else if t = 5 then ((e_pL t v x).1 + 1, 61 :: (e_pL t v x).2) else e_pL t v x
def e_A (a t : Nat) (v x : Int32) : Int32 × List Int32 := if a = 0 then e_S t v x else if a = 1 then e_H t v x else if a = 2 then e_T t v x else e_L t v x
theorem pr_00 (v x : Int32) : pr 0 v 12 0 0 x = some (e_A 0 0 v x) := rfl
theorem pr_01 (v x : Int32) : pr 0 v 12 0 1 x = some (e_A 1 0 v x) := rfl
theorem pr_02 (v x : Int32) : pr 0 v 12 0 2 x = some (e_A 2 0 v x) := rfl
theorem pr_03 (v x : Int32) : pr 0 v 12 0 3 x = some (e_A 3 0 v x) := rfl
theorem pr_10 (v x : Int32) : pr 1 v 12 1 0 x = some (e_A 0 1 v x) := rfl
theorem pr_11 (v x : Int32) : pr 1 v 12 1 1 x = some (e_A 1 1 v x) := rfl
theorem pr_12 (v x : Int32) : pr 1 v 12 1 2 x = some (e_A 2 1 v x) := rfl
theorem pr_13 (v x : Int32) : pr 1 v 12 1 3 x = some (e_A 3 1 v x) := rfl
theorem pr_20 (v x : Int32) : pr 2 v 12 2 0 x = some (e_A 0 2 v x) := rfl
theorem pr_21 (v x : Int32) : pr 2 v 12 2 1 x = some (e_A 1 2 v x) := rfl
theorem pr_22 (v x : Int32) : pr 2 v 12 2 2 x = some (e_A 2 2 v x) := rfl
theorem pr_23 (v x : Int32) : pr 2 v 12 2 3 x = some (e_A 3 2 v x) := rfl
theorem pr_30 (v x : Int32) : pr 3 v 12 3 0 x = some (e_A 0 3 v x) := rfl
theorem pr_31 (v x : Int32) : pr 3 v 12 3 1 x = some (e_A 1 3 v x) := rfl
theorem pr_32 (v x : Int32) : pr 3 v 12 3 2 x = some (e_A 2 3 v x) := rfl
theorem pr_33 (v x : Int32) : pr 3 v 12 3 3 x = some (e_A 3 3 v x) := rfl
theorem pr_40 (v x : Int32) : pr 4 v 12 4 0 x = some (e_A 0 4 v x) := rfl
theorem pr_41 (v x : Int32) : pr 4 v 12 4 1 x = some (e_A 1 4 v x) := rfl
theorem pr_42 (v x : Int32) : pr 4 v 12 4 2 x = some (e_A 2 4 v x) := rfl
theorem pr_43 (v x : Int32) : pr 4 v 12 4 3 x = some (e_A 3 4 v x) := rfl
theorem pr_50 (v x : Int32) : pr 5 v 12 5 0 x = some (e_A 0 5 v x) := rfl
theorem pr_51 (v x : Int32) : pr 5 v 12 5 1 x = some (e_A 1 5 v x) := rfl
theorem pr_52 (v x : Int32) : pr 5 v 12 5 2 x = some (e_A 2 5 v x) := rfl
theorem pr_53 (v x : Int32) : pr 5 v 12 5 3 x = some (e_A 3 5 v x) := rfl
theorem pr_60 (v x : Int32) : pr 6 v 12 6 0 x = some (e_A 0 6 v x) := rfl
theorem pr_61 (v x : Int32) : pr 6 v 12 6 1 x = some (e_A 1 6 v x) := rfl
theorem pr_62 (v x : Int32) : pr 6 v 12 6 2 x = some (e_A 2 6 v x) := rfl
theorem pr_63 (v x : Int32) : pr 6 v 12 6 3 x = some (e_A 3 6 v x) := rfl
theorem pr_70 (v x : Int32) : pr 7 v 12 7 0 x = some (e_A 0 7 v x) := rfl
theorem pr_71 (v x : Int32) : pr 7 v 12 7 1 x = some (e_A 1 7 v x) := rfl
theorem pr_72 (v x : Int32) : pr 7 v 12 7 2 x = some (e_A 2 7 v x) := rfl
theorem pr_73 (v x : Int32) : pr 7 v 12 7 3 x = some (e_A 3 7 v x) := rfl
theorem pr_e (t a : Nat) (ht : t < 8) (ha : a < 4) (v x : Int32) : pr t v 12 t a x = some (e_A a t v x) := by
  rcases (by omega : t = 0 ∨ t = 1 ∨ t = 2 ∨ t = 3 ∨ t = 4 ∨ t = 5 ∨ t = 6 ∨ t = 7) with rfl | rfl | rfl | rfl | rfl | rfl | rfl | rfl <;> rcases (by omega : a = 0 ∨ a = 1 ∨ a = 2 ∨ a = 3) with rfl | rfl | rfl | rfl
  · exact pr_00 v x
  · exact pr_01 v x
  · exact pr_02 v x
  · exact pr_03 v x
  · exact pr_10 v x
  · exact pr_11 v x
  · exact pr_12 v x
  · exact pr_13 v x
  · exact pr_20 v x
  · exact pr_21 v x
  · exact pr_22 v x
  · exact pr_23 v x
  · exact pr_30 v x
  · exact pr_31 v x
  · exact pr_32 v x
  · exact pr_33 v x
  · exact pr_40 v x
  · exact pr_41 v x
  · exact pr_42 v x
  · exact pr_43 v x
  · exact pr_50 v x
  · exact pr_51 v x
  · exact pr_52 v x
  · exact pr_53 v x
  · exact pr_60 v x
  · exact pr_61 v x
  · exact pr_62 v x
  · exact pr_63 v x
  · exact pr_70 v x
  · exact pr_71 v x
  · exact pr_72 v x
  · exact pr_73 v x
theorem e_lenv (t a : Nat) (ht : t < 8) (ha : a < 4) (v x : Int32) : (e_A a t v x).2.length ≤ 24 := by
  rcases (by omega : t = 0 ∨ t = 1 ∨ t = 2 ∨ t = 3 ∨ t = 4 ∨ t = 5 ∨ t = 6 ∨ t = 7) with rfl | rfl | rfl | rfl | rfl | rfl | rfl | rfl <;> rcases (by omega : a = 0 ∨ a = 1 ∨ a = 2 ∨ a = 3) with rfl | rfl | rfl | rfl <;> exact Nat.le_of_ble_eq_true rfl
def MS (F : ej_M → Option (Int32 × ej_M)) (b t : Nat) (e : Int32 × List Int32) : Prop := ∀ (m : ej_M) r, m.1 64 b = nI t → m.1 41 45 = nI r → r + e.2.length ≤ 100 → oj_wp (F m) fun q => q.1 = e.1 ∧ AT 65 41 45 r e.2 m q.2
theorem m_log {m : ej_M} {r : Nat} (hr : m.1 41 45 = nI r) (h9 : r < 1000) (c : Int32) : oj_wp (f_X11_ran c m) fun q => AT 65 41 45 r [c] m q.2 := by
  unfold f_X11_ran f_X11_ran_B19 oj_pf
  by_cases h : r < 24
  · rw [hr, if_neg (show ¬ (24 : Int32) ≤ nI r from fun q => by have := (nI_leI (a := 24) (by decide) (by omega)).mp q; omega), oj_ar_st ar_65 h, o_bs, o_bs]
    refine wp_some ⟨sm_trans (sm_row fun i hi => absurd (Or.inl rfl) hi) (sm_w (Or.inr ⟨rfl, rfl⟩)), ?_, fun i hi => ?_⟩
    · simp only; rw [w_same, oj_row_n (by decide), hr, nI_1]; rfl
    · simp only
      rw [w_place (by decide), oj_row_s]
      unfold upd ap
      by_cases e : i = r
      · rw [if_pos e, if_pos (by simp; omega), e, Nat.sub_self]; rfl
      · rw [if_neg e, if_neg (by simp; omega)]
  · rw [hr, if_pos (show (24 : Int32) ≤ nI r from (nI_leI (a := 24) (by decide) (by omega)).mpr (by omega)), o_bs]
    refine wp_some ⟨sm_w (Or.inr ⟨rfl, rfl⟩), ?_, fun i hi => ?_⟩
    · simp only; rw [w_same, nI_1]; rfl
    · simp only
      rw [w_place (by decide)]
      unfold ap
      rw [if_neg (by simp; omega)]
theorem ms_ran {G : ej_M → Option (Int32 × ej_M)} {b t : Nat} {e : Int32 × List Int32} (c : Int32) (g : Int32 → Int32) (h : MS G b t e) : MS (fun m => (f_X11_ran c m).bind fun q => (G q.2).bind fun w => some (g w.1, w.2)) b t (g e.1, c :: e.2) := by
  intro m r h1 h2 h3
  simp only [List.length_cons] at h3
  refine wp_bind (wp_mono (m_log h2 (by omega) c) fun q hq => ?_)
  refine wp_bind (wp_mono (h q.2 (r + 1) ((hq.1.2 64 b (by omega)).trans h1) hq.2.1 (by omega)) fun w hw => ?_)
  exact wp_some ⟨by simp only; rw [hw.1], AT_app (l1 := [c]) hq hw.2⟩
theorem ms_two {G K : ej_M → Option (Int32 × ej_M)} {b t : Nat} {e e' : Int32 × List Int32} (c : Int32) (g : Int32 → Int32 → Int32) (h : MS G b t e) (h' : MS K b t e') : MS (fun m => (f_X11_ran c m).bind fun q => (G q.2).bind fun w => (K w.2).bind fun u => some (g w.1 u.1, u.2)) b t (g e.1 e'.1, c :: (e.2 ++ e'.2)) := by
  intro m r h1 h2 h3
  simp only [List.length_cons, List.length_append] at h3
  refine wp_bind (wp_mono (m_log h2 (by omega) c) fun q hq => ?_)
  refine wp_bind (wp_mono (h q.2 (r + 1) ((hq.1.2 64 b (by omega)).trans h1) hq.2.1 (by omega)) fun w hw => ?_)
  refine wp_bind (wp_mono (h' w.2 (r + 1 + e.2.length) ((hw.2.1.2 64 b (by omega)).trans ((hq.1.2 64 b (by omega)).trans h1)) hw.2.2.1 (by omega)) fun u hu => ?_)
  exact wp_some ⟨by simp only; rw [hw.1, hu.1], AT_app (l1 := [c]) hq (AT_app hw.2 hu.2)⟩
theorem ms_id {G : ej_M → Option (Int32 × ej_M)} {b t : Nat} {e : Int32 × List Int32} (h : MS G b t e) : MS (fun m => (G m).bind fun w => some (w.1, w.2)) b t e := by
  intro m r h1 h2 h3
  exact wp_bind (wp_mono (h m r h1 h2 h3) fun w hw => wp_some hw)
theorem ms_pS {b t : Nat} (x : Int32) : MS (f_X11_plainStands (nI b) x) b t (e_pS (nI b) x) := by
  intro m r h1 h2 h3
  unfold f_X11_plainStands
  have h3' : r + 1 ≤ 100 := h3
  exact wp_bind (wp_mono (m_log h2 (by omega) 1) fun q hq => wp_some ⟨rfl, hq⟩)
theorem ms_pT {b t : Nat} (x : Int32) : MS (f_X11_plainSets (nI b) x) b t (e_pT (nI b) x) := by
  intro m r h1 h2 h3
  unfold f_X11_plainSets
  have h3' : r + 1 ≤ 100 := h3
  exact wp_bind (wp_mono (m_log h2 (by omega) 11) fun q hq => wp_some ⟨rfl, hq⟩)
theorem ms_cS {b t : Nat} (x : Int32) : MS (f_X11_chippedStands (nI b) x) b t (e_cS (nI b) x) := by
  intro m
  unfold f_X11_chippedStands
  exact ms_ran 70 (fun v => v * 2) (ms_pS x) m
theorem un_1 : ∀ t, t < 8 → (un_m (nI t) 1 = true ↔ (t = 1 ∨ t = 4)) := by decide
theorem un_3 : ∀ t, t < 8 → (un_m (nI t) 3 = true ↔ (t = 3 ∨ t = 5)) := by decide
theorem nI_is {t c : Nat} (ht : t < 8) (hc : c < 8) : (nI t = nI c ↔ t = c) := nI_eq (by omega) (by omega)
theorem ms_S {b t : Nat} (hb : b < 50) (ht : t < 8) (x : Int32) : MS (f_X11_standsOf (nI b) x) b t (e_S t (nI b) x) := by
  intro m r h1 h2
  unfold f_X11_standsOf e_S
  rw [oj_ar_ld ar_64 hb, o_bs, h1, m_isUnder, o_bs]
  simp only
  by_cases c1 : t = 1 ∨ t = 4
  · rw [if_pos c1, if_pos ((un_1 t ht).mpr c1), if_neg i10]
    exact ms_ran 20 (fun v => v + 3) (ms_pS x) m r h1 h2
  rw [if_neg c1, if_neg (fun q => c1 ((un_1 t ht).mp q)), if_pos rfl, oj_ar_ld ar_64 hb, o_bs, h1]
  by_cases c7 : t = 7
  · rw [if_pos c7, if_pos (show nI t = 7 from (nI_is (c := 7) ht (by decide)).mpr c7)]
    exact ms_ran 81 (fun v => v - 1) (ms_cS x) m r h1 h2
  rw [if_neg c7, if_neg (show ¬ nI t = 7 from fun q => c7 ((nI_is (c := 7) ht (by decide)).mp q)), o_bs]
  by_cases c6 : t = 6
  · rw [if_pos c6, if_pos (show nI t = 6 from (nI_is (c := 6) ht (by decide)).mpr c6)]
    exact ms_id (ms_cS x) m r h1 h2
  rw [if_neg c6, if_neg (show ¬ nI t = 6 from fun q => c6 ((nI_is (c := 6) ht (by decide)).mp q))]
  exact ms_id (ms_pS x) m r h1 h2
theorem ms_pH {b t : Nat} (hb : b < 50) (ht : t < 8) (x : Int32) : MS (f_X11_plainHolds (nI b) x) b t (e_pH t (nI b) x) := by
  intro m
  unfold f_X11_plainHolds
  exact ms_ran 10 (fun v => v * 2) (ms_S hb ht x) m
theorem ms_hH {b t : Nat} (hb : b < 50) (ht : t < 8) (x : Int32) : MS (f_X11_heldHolds (nI b) x) b t (e_hH t (nI b) x) := by
  intro m
  unfold f_X11_heldHolds
  exact ms_ran 30 (fun v => -v) (ms_pH hb ht x) m
theorem ms_hT {b t : Nat} (x : Int32) : MS (f_X11_holdingSets (nI b) x) b t (e_hT (nI b) x) := by
  intro m
  unfold f_X11_holdingSets
  exact ms_ran 40 (fun v => v * 3) (ms_pT x) m
theorem ms_T {b t : Nat} (hb : b < 50) (ht : t < 8) (x : Int32) : MS (f_X11_setting (nI b) x) b t (e_T t (nI b) x) := by
  intro m r h1 h2
  unfold f_X11_setting e_T
  rw [oj_ar_ld ar_64 hb, o_bs, h1]
  by_cases c5 : t = 5
  · rw [if_pos c5, if_pos (show nI t = 5 from (nI_is (c := 5) ht (by decide)).mpr c5)]
    exact ms_two 60 (fun v w => v - w) (ms_hT x) (ms_S hb ht 2) m r h1 h2
  rw [if_neg c5, if_neg (show ¬ nI t = 5 from fun q => c5 ((nI_is (c := 5) ht (by decide)).mp q)), o_bs]
  by_cases c3 : t = 3
  · rw [if_pos c3, if_pos (show nI t = 3 from (nI_is (c := 3) ht (by decide)).mpr c3)]
    exact ms_id (ms_hT x) m r h1 h2
  rw [if_neg c3, if_neg (show ¬ nI t = 3 from fun q => c3 ((nI_is (c := 3) ht (by decide)).mp q))]
  exact ms_id (ms_pT x) m r h1 h2
theorem ms_H {b t : Nat} (hb : b < 50) (ht : t < 8) (x : Int32) : MS (f_X11_holding (nI b) x) b t (e_H t (nI b) x) := by
  intro m r h1 h2
  unfold f_X11_holding e_H
  rw [oj_ar_ld ar_64 hb, o_bs, h1, m_isUnder, o_bs]
  simp only
  by_cases c1 : t = 3 ∨ t = 5
  · rw [if_pos c1, if_pos ((un_3 t ht).mpr c1), if_neg i10]
    exact ms_ran 41 (fun v => v) (ms_hH hb ht (x + 1)) m r h1 h2
  rw [if_neg c1, if_neg (fun q => c1 ((un_3 t ht).mp q)), if_pos rfl, oj_ar_ld ar_64 hb, o_bs, h1]
  by_cases c7 : t = 7
  · rw [if_pos c7, if_pos (show nI t = 7 from (nI_is (c := 7) ht (by decide)).mpr c7)]
    exact ms_two 80 (fun v w => v + w) (ms_pH hb ht x) (ms_T hb ht 2) m r h1 h2
  rw [if_neg c7, if_neg (show ¬ nI t = 7 from fun q => c7 ((nI_is (c := 7) ht (by decide)).mp q)), o_bs]
  by_cases c2 : t = 2
  · rw [if_pos c2, if_pos (show nI t = 2 from (nI_is (c := 2) ht (by decide)).mpr c2)]
    exact ms_id (ms_hH hb ht x) m r h1 h2
  rw [if_neg c2, if_neg (show ¬ nI t = 2 from fun q => c2 ((nI_is (c := 2) ht (by decide)).mp q))]
  exact ms_id (ms_pH hb ht x) m r h1 h2
theorem ms_pL {b t : Nat} (hb : b < 50) (ht : t < 8) (x : Int32) : MS (f_X11_plainSells (nI b) x) b t (e_pL t (nI b) x) := by
  intro m
  unfold f_X11_plainSells
  exact ms_two 2 (fun v w => v - w) (ms_H hb ht x) (ms_T hb ht 1) m
theorem ms_L {b t : Nat} (hb : b < 50) (ht : t < 8) (x : Int32) : MS (f_X11_selling (nI b) x) b t (e_L t (nI b) x) := by
  intro m r h1 h2
  unfold f_X11_selling e_L
  rw [oj_ar_ld ar_64 hb, o_bs, h1]
  by_cases c4 : t = 4
  · rw [if_pos c4, if_pos (show nI t = 4 from (nI_is (c := 4) ht (by decide)).mpr c4)]
    exact ms_ran 50 (fun v => v ^^^ 5) (ms_pL hb ht x) m r h1 h2
  rw [if_neg c4, if_neg (show ¬ nI t = 4 from fun q => c4 ((nI_is (c := 4) ht (by decide)).mp q)), o_bs]
  by_cases c5 : t = 5
  · rw [if_pos c5, if_pos (show nI t = 5 from (nI_is (c := 5) ht (by decide)).mpr c5)]
    exact ms_ran 61 (fun v => v + 1) (ms_pL hb ht x) m r h1 h2
  rw [if_neg c5, if_neg (show ¬ nI t = 5 from fun q => c5 ((nI_is (c := 5) ht (by decide)).mp q))]
  exact ms_id (ms_pL hb ht x) m r h1 h2
def sAC (a j : Nat) : Prop := (a = 34 ∧ (j = 3 ∨ j = 4)) ∨ a = 36 ∨ (a = 41 ∧ j = 45) ∨ a = 65
theorem IV_act {L : Nat} {xs : Nat → Int32} {n k : Nat} {ρ : Nat → Nat} {P : Option (List (List Int32 × List Int32))} {nb r : Nat} {m m' : ej_M} (hI : IV L xs n k ρ P nb m) (hs : oj_sm sAC m m') (h9 : r ≤ 100) (h1 : m'.1 34 3 = nI r) (h2 : m'.1 41 45 = nI r) (h3 : ∀ i, i < r → i < 24 → m'.1 65 i = m'.1 36 i) : IV L xs n k ρ P nb m' := by
  obtain ⟨hA, hB, hCh, hD, ⟨e1, e2, e3, e4, _⟩, hF, hG⟩ := hI
  refine ⟨IA_fr (fun a j q => hs.2 a j ?_) hA, IB_fr (Nat.le_refl _) (fun a j q => hs.2 a j ?_) hB, IC_fr (Nat.le_refl _) (fun a j q => hs.2 a j ?_) hCh, ID_fr (fun a j q => hs.2 a j ?_) hD, ⟨e1, (hs.2 34 1 ?_).trans e2, (hs.2 41 43 ?_).trans e3, fun i hi => ?_, r, h9, h1, h2, h3⟩, IF_fr (Nat.le_refl _) (fun a j q => hs.2 a j ?_) hs.1 hF, IG_fr (fun a j q => hs.2 a j ?_) hG⟩
  · unfold sIA at q; unfold sAC; omega
  · unfold sIB at q; unfold sAC; omega
  · unfold sIC at q; unfold sAC; omega
  · unfold sID at q; unfold sAC; omega
  · unfold sAC; omega
  · unfold sAC; omega
  · rw [hs.2 64 i (by unfold sAC; omega), hs.2 35 i (by unfold sAC; omega)]; exact e4 i hi
  · unfold sIF at q; unfold sAC; omega
  · unfold sAC; omega
theorem CB_act {P : Option (List (List Int32 × List Int32))} {b : Nat} {m m' : ej_M} (hs : oj_sm sAC m m') (h : CB P b m) : CB P (b + oST) m' := by
  refine CB_fr hs (CB_step h) (fun i => ?_) ?_ ?_ (fun i hi => ?_) <;> · unfold sAC; omega
theorem op_actN {v1 v2 v3 : Int32} {L : Nat} {xs : Nat → Int32} {b n k : Nat} {ρ : Nat → Nat} {P : Option (List (List Int32 × List Int32))} {nb : Nat} {m : ej_M} (hI : IV L xs n k ρ P nb m) (hC : CB P b m) (hx : f_X10_act v1 v2 v3 m = some (0, ej_w m 34 3 0)) (hm : ∀ m' : ej_M, m'.1 41 43 = m.1 41 43 → f_X11_act v1 v2 v3 m' = some (0, ej_w m' 41 45 0)) : oj_wp (f_X10_act v1 v2 v3 m) fun q => (q.2.1 4000 = m.1 4000 ∧ q.2.1 4001 = m.1 4001) ∧ oj_wp (f_X11_act v1 v2 v3 q.2) fun r => q.1 = r.1 ∧ Inv L xs (b + oST) r.2 := by
  rw [hx]
  refine wp_some ⟨⟨w_place (by decide), w_place (by decide)⟩, ?_⟩
  simp only
  rw [hm _ (by rw [w_place (by decide)])]
  have hs : oj_sm sAC m (ej_w (ej_w m 34 3 0) 41 45 0) := by
    refine sm_trans (sm_w ?_) (sm_w ?_) <;> · unfold sAC; omega
  refine wp_some ⟨rfl, n, k, ρ, P, nb, IV_act (r := 0) hI hs (by decide) ?_ w_same (fun i hi => by omega), CB_act hs hC⟩
  simp only
  rw [w_place (by decide), w_same]; rfl
theorem op_act (v1 v2 v3 : Int32) : OP (f_X10_act v1 v2 v3) (f_X11_act v1 v2 v3) := by
  intro L xs b m ⟨n, k, ρ, P, nb, hI, hC⟩ hb
  obtain ⟨e1, e2, e3, e4, e5⟩ := hI.2.2.2.2.1
  rcases r_cases v1 nb with ⟨s, hs, rfl⟩ | hN
  · rcases r_cases v2 4 with ⟨a, ha, rfl⟩ | hN2
    · obtain ⟨f1, t, f2, f3⟩ := e4 s hs
      have hlen := e_lenv t a f2 ha (nI s) v3
      unfold f_X10_act f_X0_start oj_pf
      rw [o_bs, x_bodyY (n := nb) (by rw [w_other (by omega)]; exact e2) (by omega) hs, o_bs, if_neg i10, if_neg (nI_pos (by omega)), if_pos (show nI a < 4 from i_lt (N := 4) ha (by decide)), o_bs]
      simp only
      have hs0 : oj_sm sAC m (ej_w (ej_w m 34 3 0) 34 4 (nI s)) := by
        refine sm_trans (sm_w ?_) (sm_w ?_) <;> · unfold sAC; omega
      have g4 : (ej_w (ej_w m 34 3 0) 34 4 (nI s)).1 34 4 = nI s := w_same
      have g3 : (ej_w (ej_w m 34 3 0) 34 4 (nI s)).1 34 3 = nI 0 := by rw [w_other (by omega), w_same]; rfl
      generalize ej_w (ej_w m 34 3 0) 34 4 (nI s) = m0 at hs0 g4 g3 ⊢
      have hP : XPb L xs nb s t m0 := ⟨IG_fr (fun a j q => hs0.2 a j (by unfold sAC; omega)) hI.2.2.2.2.2.2, g4, (hs0.2 34 1 (by unfold sAC; omega)).trans e2, hs, e1, (hs0.2 35 s (by unfold sAC; omega)).trans f3, f2⟩
      have hX : oj_wp (f_X0_own oj_RF (nI a) v3 0 m0) fun q => q.1 = (e_A a t (nI s) v3).1 ∧ AT 36 34 3 0 (e_A a t (nI s) v3).2 m0 q.2 := by
        unfold f_X0_own
        rw [show oj_RF = 119 + 1 from rfl, g_own]
        unfold f_X0_own_e
        rw [x_kind hP, o_bs]
        simp only
        refine wp_bind (wp_mono (x_run L xs nb s t 12 t a v3 119 1 0 m0 _ (pr_e t a f2 ha (nI s) v3) f2 ha (by omega) (by omega) hP g3 (by omega)) fun q hq => wp_some hq)
      refine wp_bind (wp_bind (wp_mono hX fun q hq => wp_some ?_))
      obtain ⟨q1, q2⟩ := hq
      have hs1 : oj_sm sAC m q.2 := sm_trans hs0 (sm_mono q2.1 fun a j x => by unfold sAC; omega)
      refine wp_some ⟨⟨funext fun j => hs1.2 4000 j (by unfold sAC; omega), funext fun j => hs1.2 4001 j (by unfold sAC; omega)⟩, ?_⟩
      simp only
      unfold f_X11_act oj_pf
      rw [o_bs, m_bodyY (n := nb) (by rw [w_other (by omega)]; exact (hs1.2 41 43 (by unfold sAC; omega)).trans e3) (by omega) hs, o_bs, if_neg i10, m_inKY (N := 4) ha (by decide) (by decide), o_bs, if_neg i10]
      simp only
      have hs2 : oj_sm sAC q.2 (ej_w q.2 41 45 0) := sm_w (by unfold sAC; omega)
      have k64 : (ej_w q.2 41 45 0).1 64 s = nI t := by
        rw [w_place (by decide), hs1.2 64 s (by unfold sAC; omega), f1, f3]
      have k45 : (ej_w q.2 41 45 0).1 41 45 = nI 0 := w_same
      have k34 : (ej_w q.2 41 45 0).1 34 3 = nI (0 + (e_A a t (nI s) v3).2.length) := by rw [w_place (by decide)]; exact q2.2.1
      have k36 : (ej_w q.2 41 45 0).1 36 = q.2.1 36 := w_place (by decide)
      generalize ej_w q.2 41 45 0 = m2 at hs2 k64 k45 k34 k36 ⊢
      have hgo : ∀ {F : ej_M → Option (Int32 × ej_M)}, MS F s t (e_A a t (nI s) v3) → oj_wp ((F m2).bind fun w => some (w.1, w.2)) fun r => q.1 = r.1 ∧ Inv L xs (b + oST) r.2 := fun {F} hF => by
        refine wp_bind (wp_mono (hF m2 0 k64 k45 (by omega)) fun w hw => wp_some ?_)
        obtain ⟨w1, w2⟩ := hw
        have hs3 : oj_sm sAC m w.2 := sm_trans hs1 (sm_trans hs2 (sm_mono w2.1 fun a j x => by unfold sAC; omega))
        refine ⟨q1.trans w1.symm, n, k, ρ, P, nb, IV_act (r := (e_A a t (nI s) v3).2.length) hI hs3 (by omega) ?_ ?_ (fun i h1 h2 => ?_), CB_act hs3 hC⟩
        · simp only; rw [w2.1.2 34 3 (by omega), k34, Nat.zero_add]
        · simp only; rw [w2.2.1, Nat.zero_add]
        · simp only
          rw [w2.2.2 i h2, w2.1.2 36 i (by omega), k36, q2.2.2 i h2]
          unfold ap
          rw [if_pos (by omega), if_pos (by omega)]
      have hb' : s < 50 := by omega
      rcases (by omega : a = 0 ∨ a = 1 ∨ a = 2 ∨ a = 3) with rfl | rfl | rfl | rfl
      · rw [if_pos (show nI 0 = 0 from rfl)]
        exact hgo (ms_S hb' f2 v3)
      · rw [if_neg (show ¬ nI 1 = 0 by decide), if_pos (show nI 1 = 1 from rfl)]
        exact hgo (ms_H hb' f2 v3)
      · rw [if_neg (show ¬ nI 2 = 0 by decide), if_neg (show ¬ nI 2 = 1 by decide), if_pos (show nI 2 = 2 from rfl)]
        exact hgo (ms_T hb' f2 v3)
      · rw [if_neg (show ¬ nI 3 = 0 by decide), if_neg (show ¬ nI 3 = 1 by decide), if_neg (show ¬ nI 3 = 2 by decide)]
        exact hgo (ms_L hb' f2 v3)
    · refine op_actN hI hC ?_ (fun m' h => ?_)
      · unfold f_X10_act f_X0_start oj_pf
        rw [o_bs, x_bodyY (n := nb) (by rw [w_other (by omega)]; exact e2) (by omega) hs, o_bs, if_neg i10]
        rcases r_no (by decide) hN2 with h | h
        · rw [if_pos h]; rfl
        · by_cases h0 : v2 < 0
          · rw [if_pos h0]; rfl
          · rw [if_neg h0, if_neg (show ¬ v2 < 4 from Int32.not_lt.mpr h)]; rfl
      · unfold f_X11_act oj_pf
        rw [o_bs, m_bodyY (n := nb) (by rw [w_other (by omega)]; exact h.trans e3) (by omega) hs, o_bs, if_neg i10, m_inK (N := 4) (by decide) (by decide) hN2, o_bs, if_pos rfl]
  · refine op_actN hI hC ?_ (fun m' h => ?_)
    · unfold f_X10_act f_X0_start oj_pf
      rw [o_bs, x_bodyN (n := nb) (by rw [w_other (by omega)]; exact e2) (by omega) hN, o_bs, if_pos rfl]; rfl
    · unfold f_X11_act oj_pf
      rw [o_bs, m_bodyN (n := nb) (by rw [w_other (by omega)]; exact h.trans e3) (by omega) hN, o_bs, if_pos rfl]
