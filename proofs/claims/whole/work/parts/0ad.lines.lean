/-! law: all lines on both sides -/
def tot : List (List Int32 × List Int32) → Nat
  | [] => 0
  | (t, b) :: P => t.length + b.length + tot P
theorem tot_flat : ∀ P : List (List Int32 × List Int32), tot P + P.length ≤ (tk_flat P).length := by
  intro P
  induction P with
  | nil => exact Nat.le_refl _
  | cons q P ih =>
    obtain ⟨t, b⟩ := q
    have h1 : (tk_flat ((t, b) :: P)).length = (tk_line (t, b)).length + (tk_flat P).length := by simp [tk_flat]
    have h2 : t.length + b.length + 1 ≤ (tk_line (t, b)).length := by
      unfold tk_line
      by_cases h : t = [] <;> simp [h] <;> omega
    show t.length + b.length + tot P + (P.length + 1) ≤ _
    omega
theorem LMl_two {m m' : ej_M} : ∀ (P : List (List Int32 × List Int32)) (l f : Nat), (∀ j, l ≤ j → j < l + P.length → m'.1 52 j = m.1 52 j ∧ m'.1 53 j = m.1 53 j) → (∀ j, f ≤ j → j < f + tot P → m'.1 49 j = m.1 49 j ∧ m'.1 50 j = m.1 50 j) → LMl m P l f → LMl m' P l f := by
  intro P
  induction P with
  | nil => intro l f h1 h2 h; trivial
  | cons q P ih =>
    intro l f h1 h2 h
    obtain ⟨t, b⟩ := q
    obtain ⟨a1, a2, a3, a4⟩ := h
    have h1' : ∀ j, l ≤ j → j < l + (P.length + 1) → m'.1 52 j = m.1 52 j ∧ m'.1 53 j = m.1 53 j := h1
    have h2' : ∀ j, f ≤ j → j < f + (t.length + b.length + tot P) → m'.1 49 j = m.1 49 j ∧ m'.1 50 j = m.1 50 j := h2
    refine ⟨(h1' l (Nat.le_refl _) (by omega)).1.trans a1, (h1' l (Nat.le_refl _) (by omega)).2.trans a2, fun j hj => ?_, ih (l + 1) (f + t.length + b.length) (fun j hj1 hj2 => h1' j (by omega) (by omega)) (fun j hj1 hj2 => h2' j (by omega) (by omega)) a4⟩
    have hl : (t ++ b).length = t.length + b.length := List.length_append
    obtain ⟨z1, z2⟩ := h2' (f + j) (by omega) (by omega)
    rw [z1, z2]
    exact a3 j hj
-- four rows as a memory
def L4 (T E A W : Nat → Int32) : ej_M := (fun a => if a = 52 then T else if a = 53 then E else if a = 49 then A else W, fun _ _ => 0)
theorem getD_mapF {f : Int32 → Int32} : ∀ (ts : List Int32) (j : Nat), j < ts.length → (ts.map f).getD j 0 = f (ts.getD j 0) := by
  intro ts
  induction ts with
  | nil => intro j h; exact absurd h (Nat.not_lt_zero _)
  | cons t ts ih =>
    intro j h
    match j with
    | 0 => rfl
    | j + 1 => exact ih j (by simpa using h)
theorem mem_getD0 {ts : List Int32} {j : Nat} (h : j < ts.length) : ts.getD j 0 ∈ ts := by
  rw [List.getD_eq_getElem?_getD, List.getElem?_eq_getElem h]
  exact List.getElem_mem h
theorem loop_bind {S E X : Type} {body : S → Option (S ⊕ E)} {s : S} {x : Option X} {f : X → S} {K : Nat} (h : body s = x.bind fun q => some (Sum.inl (f q))) : oj_loop body (K + 1) s = x.bind fun q => oj_loop body K (f q) := by
  show (match body s with | none => none | some (.inl s') => oj_loop body K s' | some (.inr e) => some e) = _
  rw [h]
  cases x <;> rfl
def xLs (q : Int32 × Int32 × ej_M) : Option ((Int32 × Int32 × ej_M) ⊕ (Int32 × ej_M)) := f_X2_read_L17b q.1 q.2.1 q.2.2
def xLF (v : Int32) (K : Nat) (m : ej_M) : Option (Int32 × ej_M) := (f_X2_readLine m).bind fun q => oj_loop xLs K (q.1, v, q.2)
def mLs (m : ej_M) : Option (ej_M ⊕ (Int32 × ej_M)) := f_X11_readText_L31b 0 m
def mLF (K : Nat) (m : ej_M) : Option (Int32 × ej_M) := (f_X11_line m).bind fun q => oj_loop mLs K q.2
def LsR (l i i' : Nat) (r : Option (List (List Int32 × List Int32))) : Prop := i ≤ i' ∧ i' ≤ l ∧ ∀ P, r = some P → P ≠ [] ∧ i + (tk_flat P).length ≤ l + 1 ∧ ∀ q, q ∈ P → tk_wfl q
def LsX (l : Nat) (c : Nat → Nat) (i i' : Nat) (r : Option (List (List Int32 × List Int32))) : Prop := ∀ (m : ej_M) (b : Nat) (g : Nat → Int32) (v K : Nat), TpX l c m → b ≤ i → 2 * v ≤ i → l - i < K →
  (∀ P, r = some P → xLF (nI (v + 1)) K (xT m i b g) = f_X2_read_B67 1 (xT m l (b + (tk_flat P).length) (apL g b (tk_flat P))))
  ∧ (r = none → ∃ b' g', xLF (nI (v + 1)) K (xT m i b g) = f_X2_read_B67 0 (xT m i' b' g'))
def LsM (l : Nat) (c : Nat → Nat) (i i' : Nat) (r : Option (List (List Int32 × List Int32))) : Prop := ∀ (m : ej_M) (b : Nat) (A W : Nat → Int32) (k K : Nat), TpM l c m → b ≤ i → m.1 51 1 = nI k → 2 * k ≤ i → l - i < K →
  (∀ P, r = some P → ∃ m' A' W', mLF K (mT m i (-1) (nI 0) b A W) = f_X11_readText_B64 0 (mT m' l (-1) (nI 0) (b + tot P) A' W') ∧ oj_sm (SL k) m m' ∧ (∀ j, j < 130 + b → A' j = A j ∧ W' j = W j) ∧ m'.1 51 1 = nI (k + P.length)
    ∧ LMl (L4 (fun j => m'.1 52 (61 + j)) (fun j => m'.1 53 (61 + j)) (fun j => A' (130 + j)) (fun j => W' (130 + j))) P k b
    ∧ (∀ j, b ≤ j → j < b + tot P → ∃ a, a < 128 ∧ A' (130 + j) = nI a)
    ∧ ∀ j, k ≤ j → j < k + P.length → (∃ x, x < 800 ∧ m'.1 52 (61 + j) = nI x) ∧ ∃ x, x < 800 ∧ m'.1 53 (61 + j) = nI x)
  ∧ (r = none → ∃ m' f' o' b' A' W', mLF K (mT m i (-1) (nI 0) b A W) = f_X11_readText_B64 0 (mT m' i' f' o' b' A' W') ∧ (f' = nI i' ∨ f' = -1 ∧ i' < l) ∧ oj_sm (SL k) m m' ∧ ∀ j, j < 130 + b → A' j = A j ∧ W' j = W j)
theorem SL_mono {k k' : Nat} (h : k ≤ k') : ∀ a j, SL k' a j → SL k a j := fun a j q => by unfold SL at *; omega
theorem mLs_end {m : ej_M} {i b : Nat} {f o : Int32} {A W : Nat → Int32} {K : Nat} (h : 0 ≤ f) : oj_loop mLs (K + 1) (mT m i f o b A W) = f_X11_readText_B64 0 (mT m i f o b A W) := by
  refine loop_map ?_
  unfold mLs f_X11_readText_L31b
  rw [mT_17, if_pos h]
theorem mLs_no {l : Nat} {c : Nat → Nat} {m : ej_M} {i b : Nat} {o : Int32} {A W : Nat → Int32} {K : Nat} (hc : HC l c) (hT : TpM l c m) (hi : i ≤ l) (h : c i ≠ 59) : oj_loop mLs (K + 1) (mT m i (-1) o b A W) = f_X11_readText_B64 0 (mT m i (-1) o b A W) := by
  refine loop_map ?_
  unfold mLs f_X11_readText_L31b
  rw [mT_17, if_neg (show ¬ (0 : Int32) ≤ -1 by decide), m_look hc hT hi, o_bs, if_neg (show ¬ lk (c i) = 59 from lk_no (v := 59) hc (by decide) h)]
theorem mLs_yes {l : Nat} {c : Nat → Nat} {m : ej_M} {i b : Nat} {o : Int32} {A W : Nat → Int32} {K : Nat} (hc : HC l c) (hT : TpM l c m) (hi : i ≤ l) (h : c i = 59) : oj_loop mLs (K + 1) (mT m i (-1) o b A W) = mLF K (mT m (i + 1) (-1) o b A W) := by
  unfold mLF
  refine loop_bind ?_
  unfold mLs f_X11_readText_L31b
  rw [mT_17, if_neg (show ¬ (0 : Int32) ≤ -1 by decide), m_look hc hT hi, o_bs, if_pos (show lk (c i) = 59 from (m_is (v := 59) hc (by decide)).mpr h)]
  unfold oj_pf
  rw [o_bs, mT_16, nI_1, mT_w16]
theorem xLs_in {v : Nat} (hv : v < 120) : ¬ (120 : Int32) ≤ nI v := fun q => by have := (nI_leI (a := 120) (by decide) (by omega)).mp q; omega
theorem xLs_lt {l i b : Nat} {c : Nat → Nat} {m : ej_M} {g : Nat → Int32} (hT : TpX l c m) (hl : l ≤ 120) (hi : i ≤ l) : ((xT m i b g).1 1 2 < (xT m i b g).1 1 1) ↔ i < l := by
  rw [xT_12, xT_11, hT.1]
  exact nI_ltI (by omega) (by omega)
theorem xLs_0 {m : ej_M} {v : Int32} {K : Nat} : oj_loop xLs (K + 1) (0, v, m) = f_X2_read_B67 0 m := by
  refine loop_map (show f_X2_read_L17b 0 v m = _ from ?_)
  have e : f_X2_read_B47 0 m = f_X2_read_B67 0 m := by
    unfold f_X2_read_B47
    rw [if_pos rfl]
    rfl
  unfold f_X2_read_L17b
  by_cases h : (120 : Int32) ≤ v
  · rw [if_pos h, e]
  · rw [if_neg h, if_pos rfl, e]
theorem xLs_no {l i b v K : Nat} {c : Nat → Nat} {m : ej_M} {g : Nat → Int32} (hc : HC l c) (hT : TpX l c m) (hi : i < l) (hv : v < 120) (h : c i ≠ 59) : oj_loop xLs (K + 1) (1, nI v, xT m i b g) = f_X2_read_B67 0 (xT m i b g) := by
  refine loop_map (show f_X2_read_L17b 1 (nI v) (xT m i b g) = _ from ?_)
  have e : f_X2_read_B47 1 (xT m i b g) = f_X2_read_B67 0 (xT m i b g) := by
    unfold f_X2_read_B47
    rw [if_neg i10, if_pos ((xLs_lt hT hc.1 (Nat.le_of_lt hi)).mpr hi)]
    rfl
  unfold f_X2_read_L17b
  rw [if_neg (xLs_in hv), if_neg i10, x_pass0 (t := 10) rfl (by decide) hc hT (Nat.le_of_lt hi) (fun q => h (stn_10.mp q)), o_bs, if_pos rfl]
  exact congrArg _ e
theorem xLs_fin {l b v K : Nat} {c : Nat → Nat} {m : ej_M} {g : Nat → Int32} (hc : HC l c) (hT : TpX l c m) (hv : v < 120) : oj_loop xLs (K + 1) (1, nI v, xT m l b g) = f_X2_read_B67 1 (xT m l b g) := by
  refine loop_map (show f_X2_read_L17b 1 (nI v) (xT m l b g) = _ from ?_)
  have e : f_X2_read_B47 1 (xT m l b g) = f_X2_read_B67 1 (xT m l b g) := by
    unfold f_X2_read_B47
    rw [if_neg i10, if_neg (fun q => by have := (xLs_lt hT hc.1 (Nat.le_refl _)).mp q; omega)]
  unfold f_X2_read_L17b
  rw [if_neg (xLs_in hv), if_neg i10, x_pass0 (t := 10) rfl (by decide) hc hT (Nat.le_refl _) (fun q => by have := stn_10.mp q; have := hc.2.2 l (Nat.le_refl _); omega), o_bs, if_pos rfl]
  exact congrArg _ e
theorem xLs_yes {l i b v K : Nat} {c : Nat → Nat} {m : ej_M} {g : Nat → Int32} (hc : HC l c) (hT : TpX l c m) (hi : i ≤ l) (hv : v < 120) (h : c i = 59) : oj_loop xLs (K + 1) (1, nI v, xT m i b g) = xLF (nI (v + 1)) K (xT m (i + 1) b g) := by
  unfold xLF
  refine loop_bind (show f_X2_read_L17b 1 (nI v) (xT m i b g) = _ from ?_)
  unfold f_X2_read_L17b
  rw [if_neg (xLs_in hv), if_neg i10, x_pass1 (t := 10) rfl (by decide) hc hT hi (stn_10.mpr h), o_bs, if_neg (fun q => by have := (nI_eq0 (by omega)).mp q; omega), nI_1]
theorem lines_ex {l : Nat} {c : Nat → Nat} (hc : HC l c) : ∀ k i, i ≤ l → l - i ≤ k → ∃ i' r, LsR l i i' r ∧ LsX l c i i' r ∧ LsM l c i i' r := by
  have hl := hc.1
  intro k
  induction k with
  | zero =>
    intro i hi hk
    obtain ⟨i1, r1, ⟨w1, w2, w3⟩, hX, hM⟩ := line_ex hc hi
    cases r1 with
    | some q => have := (w3 q rfl).1; omega
    | none =>
      refine ⟨i1, none, ⟨w1, w2, fun P e => (by cases e)⟩, fun m b g v K hT hb hv hK => ⟨fun P e => (by cases e), fun _ => ?_⟩, fun m b A W k' K hT hb h51 hk' hK => ⟨fun P e => (by cases e), fun _ => ?_⟩⟩
      · obtain ⟨K, rfl⟩ : ∃ K', K = K' + 1 := ⟨K - 1, by omega⟩
        obtain ⟨v', b', g', e1, e2⟩ := (hX m b g hT hb).2 rfl
        refine ⟨b', g', ?_⟩
        unfold xLF
        rw [e1, o_bs]
        rcases e2 with rfl | ⟨rfl, e2⟩
        · exact xLs_0
        · exact xLs_no hc hT (HC_in hc (i := i1) (by have := e2.2; omega)) (by omega) (fun q => by have := e2.2; omega)
      · obtain ⟨K, rfl⟩ : ∃ K', K = K' + 1 := ⟨K - 1, by omega⟩
        obtain ⟨m', o', b', A', W', e1, e2, e3⟩ := (hM m b A W k' hT hb h51 (by omega)).2 rfl
        refine ⟨m', nI i1, o', b', A', W', ?_, Or.inl rfl, e2, e3⟩
        unfold mLF
        rw [e1, o_bs, mLs_end (nI_pos' (by omega))]
  | succ k ih =>
    intro i hi hk
    obtain ⟨i1, r1, ⟨w1, w2, w3⟩, hX, hM⟩ := line_ex hc hi
    cases r1 with
    | none =>
      refine ⟨i1, none, ⟨w1, w2, fun P e => (by cases e)⟩, fun m b g v K hT hb hv hK => ⟨fun P e => (by cases e), fun _ => ?_⟩, fun m b A W k' K hT hb h51 hk' hK => ⟨fun P e => (by cases e), fun _ => ?_⟩⟩
      · obtain ⟨K, rfl⟩ : ∃ K', K = K' + 1 := ⟨K - 1, by omega⟩
        obtain ⟨v', b', g', e1, e2⟩ := (hX m b g hT hb).2 rfl
        refine ⟨b', g', ?_⟩
        unfold xLF
        rw [e1, o_bs]
        rcases e2 with rfl | ⟨rfl, e2⟩
        · exact xLs_0
        · exact xLs_no hc hT (HC_in hc (i := i1) (by have := e2.2; omega)) (by omega) (fun q => by have := e2.2; omega)
      · obtain ⟨K, rfl⟩ : ∃ K', K = K' + 1 := ⟨K - 1, by omega⟩
        obtain ⟨m', o', b', A', W', e1, e2, e3⟩ := (hM m b A W k' hT hb h51 (by omega)).2 rfl
        refine ⟨m', nI i1, o', b', A', W', ?_, Or.inl rfl, e2, e3⟩
        unfold mLF
        rw [e1, o_bs, mLs_end (nI_pos' (by omega))]
    | some q =>
      obtain ⟨t, t2⟩ := q
      obtain ⟨w4, w5, w6, w7⟩ := w3 (t, t2) rfl
      have hfl : t.length + t2.length + 1 ≤ (tk_line (t, t2)).length := by
        unfold tk_line
        by_cases h : t = [] <;> simp [h] <;> omega
      have hl2 : (t ++ t2).length = t.length + t2.length := List.length_append
      by_cases hs : c i1 = 59
      · have hil : i1 < l := HC_in hc (by omega)
        obtain ⟨i2, r2, ⟨u1, u2, u3⟩, iX, iM⟩ := ih (i1 + 1) (by omega) (by omega)
        have eX : ∀ (m : ej_M) (b : Nat) (g : Nat → Int32) (v K : Nat), TpX l c m → b ≤ i → 2 * v ≤ i → xLF (nI (v + 1)) (K + 1) (xT m i b g) = xLF (nI (v + 1 + 1)) K (xT m (i1 + 1) (b + (tk_line (t, t2)).length) (apL g b (tk_line (t, t2)))) := fun m b g v K hT hb hv => by
          show (f_X2_readLine (xT m i b g)).bind (fun q => oj_loop xLs (K + 1) (q.1, nI (v + 1), q.2)) = _
          rw [(hX m b g hT hb).1 _ rfl, o_bs]
          exact xLs_yes hc hT w2 (by omega) hs
        cases r2 with
        | none =>
          refine ⟨i2, none, ⟨by omega, u2, fun P e => (by cases e)⟩, fun m b g v K hT hb hv hK => ⟨fun P e => (by cases e), fun _ => ?_⟩, fun m b A W k' K hT hb h51 hk' hK => ⟨fun P e => (by cases e), fun _ => ?_⟩⟩
          · obtain ⟨K, rfl⟩ : ∃ K', K = K' + 1 := ⟨K - 1, by omega⟩
            rw [eX m b g v K hT hb hv]
            exact (iX m _ _ (v + 1) K hT (by omega) (by omega) (by omega)).2 rfl
          · obtain ⟨K, rfl⟩ : ∃ K', K = K' + 1 := ⟨K - 1, by omega⟩
            obtain ⟨m1, e1, e2, e3, e4, e5⟩ := (hM m b A W k' hT hb h51 (by omega)).1 _ rfl
            have hT1 : TpM l c m1 := TpM_sm hT e2 (by unfold SL; omega) (fun j => by unfold SL; omega)
            obtain ⟨m', f', o', b', A', W', z1, z2, z3, z4⟩ := (iM m1 (b + t.length + t2.length) (apL A (130 + b) ((t ++ t2).map mt_A)) (apL W (130 + b) ((t ++ t2).map mw)) (k' + 1) K hT1 (by omega) e3 (by omega) (by omega)).2 rfl
            refine ⟨m', f', o', b', A', W', ?_, z2, sm_trans e2 (sm_mono z3 (SL_mono (Nat.le_succ _))), fun j hj => ?_⟩
            · unfold mLF
              rw [e1, o_bs, mLs_yes hc hT1 w2 hs]
              exact z1
            · obtain ⟨y1, y2⟩ := z4 j (by omega)
              exact ⟨y1.trans (ap_lo _ _ _ _ hj), y2.trans (ap_lo _ _ _ _ hj)⟩
        | some P =>
          obtain ⟨u4, u5, u6⟩ := u3 P rfl
          have hflat : tk_flat ((t, t2) :: P) = tk_line (t, t2) ++ tk_flat P := rfl
          refine ⟨i2, some ((t, t2) :: P), ⟨by omega, u2, fun P' e => ?_⟩, fun m b g v K hT hb hv hK => ⟨fun P' e => ?_, fun e => (by cases e)⟩, fun m b A W k' K hT hb h51 hk' hK => ⟨fun P' e => ?_, fun e => (by cases e)⟩⟩
          · cases e
            refine ⟨fun e => (by cases e), ?_, fun q hq => ?_⟩
            · rw [hflat, List.length_append]; omega
            · rcases List.mem_cons.mp hq with hq | hq
              · rw [hq]; exact w6
              · exact u6 q hq
          · cases e
            obtain ⟨K, rfl⟩ : ∃ K', K = K' + 1 := ⟨K - 1, by omega⟩
            rw [eX m b g v K hT hb hv, (iX m _ _ (v + 1) K hT (by omega) (by omega) (by omega)).1 P rfl, hflat, ap_app, List.length_append, Nat.add_assoc]
          · cases e
            obtain ⟨K, rfl⟩ : ∃ K', K = K' + 1 := ⟨K - 1, by omega⟩
            obtain ⟨m1, e1, e2, e3, e4, e5⟩ := (hM m b A W k' hT hb h51 (by omega)).1 _ rfl
            have hT1 : TpM l c m1 := TpM_sm hT e2 (by unfold SL; omega) (fun j => by unfold SL; omega)
            obtain ⟨m', A', W', z1, z2, z3, z4, z5, z6, z7⟩ := (iM m1 (b + t.length + t2.length) (apL A (130 + b) ((t ++ t2).map mt_A)) (apL W (130 + b) ((t ++ t2).map mw)) (k' + 1) K hT1 (by omega) e3 (by omega) (by omega)).1 P rfl
            have htot : tot ((t, t2) :: P) = t.length + t2.length + tot P := rfl
            have hA : ∀ j, j < (t ++ t2).length → A' (130 + (b + j)) = mt_A ((t ++ t2).getD j 0) ∧ W' (130 + (b + j)) = mw ((t ++ t2).getD j 0) := fun j hj => by
              obtain ⟨y1, y2⟩ := z3 (130 + (b + j)) (by omega)
              rw [y1, y2, show 130 + (b + j) = 130 + b + j by omega, ap_rd _ _ _ _ (by rw [List.length_map]; exact hj), ap_rd _ _ _ _ (by rw [List.length_map]; exact hj), getD_mapF _ _ hj, getD_mapF _ _ hj]
              exact ⟨rfl, rfl⟩
            have h52 : m'.1 52 (61 + k') = nI (b + t.length) := (z2.2 52 (61 + k') (by unfold SL; omega)).trans e4
            have h53 : m'.1 53 (61 + k') = nI (b + t.length + t2.length) := (z2.2 53 (61 + k') (by unfold SL; omega)).trans e5
            refine ⟨m', A', W', ?_, sm_trans e2 (sm_mono z2 (SL_mono (Nat.le_succ _))), fun j hj => ?_, ?_, ⟨h52, h53, fun j hj => ⟨(hA j hj).1, fun h6 => (hA j hj).2.trans ?_⟩, z5⟩, fun j hj1 hj2 => ?_, fun j hj1 hj2 => ?_⟩
            · unfold mLF
              rw [e1, o_bs, mLs_yes hc hT1 w2 hs, htot, show b + (t.length + t2.length + tot P) = b + t.length + t2.length + tot P by omega]
              exact z1
            · obtain ⟨y1, y2⟩ := z3 j (by omega)
              exact ⟨y1.trans (ap_lo _ _ _ _ hj), y2.trans (ap_lo _ _ _ _ hj)⟩
            · rw [z4, List.length_cons, show k' + 1 + P.length = k' + (P.length + 1) by omega]
            · unfold mw
              rw [if_neg h6]
            · rw [htot] at hj2
              by_cases hj : j < b + t.length + t2.length
              · obtain ⟨a, a1, a2⟩ := w7 ((t ++ t2).getD (j - b) 0) (mem_getD0 (ts := t ++ t2) (by rw [hl2]; omega))
                refine ⟨a, a1, ?_⟩
                have := (hA (j - b) (by omega)).1
                rw [show b + (j - b) = j by omega] at this
                exact this.trans a2
              · exact z6 j (by omega) (by omega)
            · rw [List.length_cons] at hj2
              by_cases hj : j = k'
              · rw [hj]
                exact ⟨⟨_, by omega, h52⟩, ⟨_, by omega, h53⟩⟩
              · exact z7 j (by omega) (by omega)
      · by_cases hil : i1 < l
        · refine ⟨i1, none, ⟨w1, w2, fun P e => (by cases e)⟩, fun m b g v K hT hb hv hK => ⟨fun P e => (by cases e), fun _ => ?_⟩, fun m b A W k' K hT hb h51 hk' hK => ⟨fun P e => (by cases e), fun _ => ?_⟩⟩
          · obtain ⟨K, rfl⟩ : ∃ K', K = K' + 1 := ⟨K - 1, by omega⟩
            refine ⟨b + (tk_line (t, t2)).length, apL g b (tk_line (t, t2)), ?_⟩
            unfold xLF
            rw [(hX m b g hT hb).1 _ rfl, o_bs]
            exact xLs_no hc hT hil (by omega) hs
          · obtain ⟨K, rfl⟩ : ∃ K', K = K' + 1 := ⟨K - 1, by omega⟩
            obtain ⟨m1, e1, e2, e3, e4, e5⟩ := (hM m b A W k' hT hb h51 (by omega)).1 _ rfl
            have hT1 : TpM l c m1 := TpM_sm hT e2 (by unfold SL; omega) (fun j => by unfold SL; omega)
            refine ⟨m1, -1, nI 0, b + t.length + t2.length, apL A (130 + b) ((t ++ t2).map mt_A), apL W (130 + b) ((t ++ t2).map mw), ?_, Or.inr ⟨rfl, hil⟩, e2, fun j hj => ⟨ap_lo _ _ _ _ hj, ap_lo _ _ _ _ hj⟩⟩
            unfold mLF
            rw [e1, o_bs, mLs_no hc hT1 w2 hs]
        · obtain rfl : i1 = l := by omega
          have hflat : tk_flat [(t, t2)] = tk_line (t, t2) := List.append_nil _
          refine ⟨i1, some [(t, t2)], ⟨w1, w2, fun P' e => ?_⟩, fun m b g v K hT hb hv hK => ⟨fun P' e => ?_, fun e => (by cases e)⟩, fun m b A W k' K hT hb h51 hk' hK => ⟨fun P' e => ?_, fun e => (by cases e)⟩⟩
          · cases e
            refine ⟨fun e => (by cases e), by rw [hflat]; exact w5, fun q hq => ?_⟩
            rw [List.mem_singleton.mp hq]; exact w6
          · cases e
            obtain ⟨K, rfl⟩ : ∃ K', K = K' + 1 := ⟨K - 1, by omega⟩
            unfold xLF
            rw [(hX m b g hT hb).1 _ rfl, o_bs, hflat]
            exact xLs_fin hc hT (by omega)
          · cases e
            obtain ⟨K, rfl⟩ : ∃ K', K = K' + 1 := ⟨K - 1, by omega⟩
            obtain ⟨m1, e1, e2, e3, e4, e5⟩ := (hM m b A W k' hT hb h51 (by omega)).1 _ rfl
            have hT1 : TpM i1 c m1 := TpM_sm hT e2 (by unfold SL; omega) (fun j => by unfold SL; omega)
            have htot : tot [(t, t2)] = t.length + t2.length := Nat.add_zero _
            have hA : ∀ j, j < (t ++ t2).length → apL A (130 + b) ((t ++ t2).map mt_A) (130 + (b + j)) = mt_A ((t ++ t2).getD j 0) ∧ apL W (130 + b) ((t ++ t2).map mw) (130 + (b + j)) = mw ((t ++ t2).getD j 0) := fun j hj => by
              rw [show 130 + (b + j) = 130 + b + j by omega, ap_rd _ _ _ _ (by rw [List.length_map]; exact hj), ap_rd _ _ _ _ (by rw [List.length_map]; exact hj), getD_mapF _ _ hj, getD_mapF _ _ hj]
              exact ⟨rfl, rfl⟩
            refine ⟨m1, apL A (130 + b) ((t ++ t2).map mt_A), apL W (130 + b) ((t ++ t2).map mw), ?_, e2, fun j hj => ⟨ap_lo _ _ _ _ hj, ap_lo _ _ _ _ hj⟩, e3, ⟨e4, e5, fun j hj => ⟨(hA j hj).1, fun h6 => (hA j hj).2.trans ?_⟩, trivial⟩, fun j hj1 hj2 => ?_, fun j hj1 hj2 => ?_⟩
            · unfold mLF
              rw [e1, o_bs, mLs_no hc hT1 w2 hs, htot, ← Nat.add_assoc]
            · unfold mw
              rw [if_neg h6]
            · rw [htot] at hj2
              obtain ⟨a, a1, a2⟩ := w7 ((t ++ t2).getD (j - b) 0) (mem_getD0 (ts := t ++ t2) (by rw [hl2]; omega))
              refine ⟨a, a1, ?_⟩
              have := (hA (j - b) (by omega)).1
              rw [show b + (j - b) = j by omega] at this
              exact this.trans a2
            · rw [List.length_singleton] at hj2
              obtain rfl : j = k' := by omega
              exact ⟨⟨b + t.length, by omega, e4⟩, ⟨b + t.length + t2.length, by omega, e5⟩⟩
