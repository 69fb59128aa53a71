/-! mixed -/
def s_e (z : Int32) : Nat := (Int32.toUInt32 z >>> (Int32.toUInt32 8 &&& Int32.toUInt32 31)).toNat
theorem s_e_lt (z : Int32) : s_e z < 2 ^ 24 := by
  unfold s_e
  rw [UInt32.toNat_shiftRight, show (Int32.toUInt32 8 &&& Int32.toUInt32 31).toNat % 32 = 8 by decide, Nat.shiftRight_eq_div_pow]
  have := (Int32.toUInt32 z).toNat_lt
  omega
theorem s_e_nI (z : Int32) : (Int32.toUInt32 z >>> (Int32.toUInt32 8 &&& Int32.toUInt32 31)).toInt32 = nI (s_e z) := by
  unfold s_e
  generalize Int32.toUInt32 z >>> (Int32.toUInt32 8 &&& Int32.toUInt32 31) = u
  apply Int32.toBitVec_inj.1
  show u.toBitVec = BitVec.ofNat 32 u.toNat
  apply BitVec.eq_of_toNat_eq
  rw [BitVec.toNat_ofNat, Nat.mod_eq_of_lt u.toNat_lt]
  rfl
theorem s_rm {e d : Nat} (he : e < 2 ^ 31) (hd : d < 1000) (h0 : 0 < d) : oj_rm (nI e) (nI d) = some (nI (e % d)) := by
  unfold oj_rm
  rw [if_neg (fun q => by have := (nI_eq0 (by omega)).mp q; omega)]
  exact congrArg some (pk_rem (d := d) he h0 (by omega))
def s_zn (z : Int32) : Int32 := z * 1103515245 + 12345
/-- one mixing from place i on down -/
def s_mx : Nat → Int32 → (Nat → Nat) → Int32 × (Nat → Nat)
  | 0, z, ρ => (z, ρ)
  | i + 1, z, ρ => s_mx i (s_zn z) (r_xc (i + 1) (s_e (s_zn z) % (i + 2)) ρ)
def PM (k N : Nat) (ρ ρ' : Nat → Nat) : Prop := (∀ q, q < k → ρ' q < N) ∧ (∀ p q, p < k → q < k → ρ' p = ρ' q → p = q) ∧ ∀ p, p < k → ∃ q, q < k ∧ ρ' q = ρ p
theorem PM_xc {k N i j : Nat} {ρ ρ' : Nat → Nat} (hi : i < k) (hj : j < k) (h : PM k N ρ ρ') : PM k N ρ (r_xc i j ρ') := by
  obtain ⟨h1, h2, h3⟩ := h
  refine ⟨fun q hq => ?_, fun p q hp hq e => ?_, fun p hp => ?_⟩
  · unfold r_xc
    split
    · exact h1 i hi
    · split
      · exact h1 j hj
      · exact h1 q hq
  · unfold r_xc at e
    by_cases a1 : p = j
    · rw [if_pos a1] at e
      by_cases b1 : q = j
      · omega
      · rw [if_neg b1] at e
        by_cases b2 : q = i
        · rw [if_pos b2] at e; have := h2 _ _ hi hj e; omega
        · rw [if_neg b2] at e; have := h2 _ _ hi hq e; omega
    · rw [if_neg a1] at e
      by_cases a2 : p = i
      · rw [if_pos a2] at e
        by_cases b1 : q = j
        · rw [if_pos b1] at e; have := h2 _ _ hj hi e; omega
        · rw [if_neg b1] at e
          by_cases b2 : q = i
          · omega
          · rw [if_neg b2] at e; have := h2 _ _ hj hq e; omega
      · rw [if_neg a2] at e
        by_cases b1 : q = j
        · rw [if_pos b1] at e; have := h2 _ _ hp hi e; omega
        · rw [if_neg b1] at e
          by_cases b2 : q = i
          · rw [if_pos b2] at e; have := h2 _ _ hp hj e; omega
          · rw [if_neg b2] at e; exact h2 _ _ hp hq e
  · obtain ⟨q, hq, e⟩ := h3 p hp
    by_cases a1 : q = i
    · refine ⟨j, hj, ?_⟩
      unfold r_xc
      rw [if_pos rfl, ← a1]; exact e
    · by_cases a2 : q = j
      · refine ⟨i, hi, ?_⟩
        unfold r_xc
        by_cases a3 : i = j
        · exact absurd (a2.trans a3.symm) a1
        · rw [if_neg a3, if_pos rfl, ← a2]; exact e
      · refine ⟨q, hq, ?_⟩
        unfold r_xc
        rw [if_neg a2, if_neg a1]; exact e
theorem PM_mx {k N : Nat} {ρ : Nat → Nat} : ∀ (i : Nat) (z : Int32) (ρ' : Nat → Nat), i < k → PM k N ρ ρ' → PM k N ρ (s_mx i z ρ').2 := by
  intro i
  induction i with
  | zero => intro z ρ' hi h; exact h
  | succ i ih =>
    intro z ρ' hi h
    unfold s_mx
    refine ih _ _ (by omega) (PM_xc hi ?_ h)
    have : s_e (s_zn z) % (i + 2) < i + 2 := Nat.mod_lt _ (by omega)
    omega
-- what counts
def s_hs (f : Nat → Bool) (s k : Nat) (ρ : Nat → Nat) : Bool := !(lwA (fun p => !(decide (ρ p = s) && f p)) k)
theorem lwA_succ {f : Nat → Bool} {i : Nat} : lwA f (i + 1) = (lwA f i && f i) := by
  unfold lwA
  by_cases hall : ∀ p, p < i → f p = true
  · rw [decide_eq_true hall, Bool.true_and]
    by_cases hx : f i = true
    · rw [hx]
      refine decide_eq_true fun p hp => ?_
      by_cases e : p = i
      · rw [e]; exact hx
      · exact hall p (by omega)
    · have hxf : f i = false := by simpa using hx
      rw [hxf]
      exact decide_eq_false fun q => hx (q i (by omega))
  · rw [decide_eq_false hall, Bool.false_and]
    exact decide_eq_false fun q => hall fun p hp => q p (by omega)
theorem s_hs_eq {f : Nat → Bool} {s k p : Nat} {ρ : Nat → Nat} (hj : ∀ p q, p < k → q < k → ρ p = ρ q → p = q) (hp : p < k) (e : ρ p = s) : s_hs f s k ρ = f p := by
  unfold s_hs lwA
  by_cases hf : f p = true
  · rw [hf, decide_eq_false]
    · rfl
    · intro h
      have := h p hp
      simp [e, hf] at this
  · have hff : f p = false := by simpa using hf
    rw [hff, decide_eq_true]
    · rfl
    · intro q hq
      by_cases e2 : ρ q = s
      · have : q = p := hj q p hq hp (e2.trans e.symm)
        show (!(decide (ρ q = s) && f q)) = true
        rw [this, hff, Bool.and_false]; rfl
      · simp [e2]
def s_hit (P : Option (List (List Int32 × List Int32))) (w : Nat → Int32) (g : Int32) (k : Nat) (so : Option Nat) (ρ : Nat → Nat) : Bool := match so with
  | none => LWf P w g k ρ
  | some s => s_hs (lw P w g ρ k) s k ρ
def s_so (so : Option Nat) : Int32 := match so with
  | none => -1
  | some s => nI s
theorem x_mixIn {P : Option (List (List Int32 × List Int32))} {w : Nat → Int32} {g : Int32} {k b c t : Nat} {ρ : Nat → Nat} {so : Option Nat} {v2 : Int32} (hk8 : k ≤ 8) (hb : b < 2 ^ 28) (hso : ∀ s, so = some s → s < 8 ∧ ∃ p, p < k ∧ ρ p = s) :
    ∀ (i K : Nat) (z v : Int32) (ρ' : Nat → Nat) (m : ej_M), (v = nI i ∨ (i = 0 ∧ v = -1)) → (i < k ∨ i = 0) → PM k 8 ρ ρ' → XK P w g m → CN P k b m → (∀ q, q < k → m.1 16 q = nI (ρ' q)) →
    oj_wp (oj_loop (fun q : (Int32 × Int32 × ej_M) => f_X8_lawfulMixings_L34b v2 (s_so so) (nI c) (nI k) (nI t) q.1 q.2.1 q.2.2) (i + K + 1) (z, v, m)) (oj_k (fun s => s.1 = nI (if s_hit P w g k so (s_mx i z ρ').2 = true then c + 1 else c) ∧ s.2.1 = (s_mx i z ρ').1 ∧ s.2.2.1 = nI (t + 1) ∧ oj_sm SX m s.2.2.2 ∧ CN P k b s.2.2.2) fun _ => False) := by
  intro i
  induction i with
  | zero =>
    intro K z v ρ' m hv hi hP hK hC h16
    refine wp_loop1 ?_
    simp only
    unfold f_X8_lawfulMixings_L34b
    rw [if_pos (show v < 1 from by rcases hv with rfl | ⟨_, rfl⟩ <;> decide)]
    have fin : ∀ (h : Bool) (m2 : ej_M), h = s_hit P w g k so ρ' → oj_sm SX m m2 → CN P k b m2 → oj_wp (f_X8_lawfulMixings_B120 v2 (s_so so) (nI c) z (nI k) (nI t) (if h = true then 1 else 0) m2) fun x => oj_k (fun s => s.1 = nI (if s_hit P w g k so (s_mx 0 z ρ').2 = true then c + 1 else c) ∧ s.2.1 = (s_mx 0 z ρ').1 ∧ s.2.2.1 = nI (t + 1) ∧ oj_sm SX m s.2.2.2 ∧ CN P k b s.2.2.2) (fun _ => False) x := fun h m2 e hs hc => by
      unfold f_X8_lawfulMixings_B120
      show oj_wp _ (oj_k (fun s : Int32 × Int32 × Int32 × ej_M => s.1 = nI (if s_hit P w g k so ρ' = true then c + 1 else c) ∧ s.2.1 = z ∧ s.2.2.1 = nI (t + 1) ∧ oj_sm SX m s.2.2.2 ∧ CN P k b s.2.2.2) fun _ : Int32 × ej_M => False)
      rw [← e]
      by_cases hh : h = true
      · rw [if_pos hh, if_neg i10, if_pos hh, nI_1, nI_1]
        exact wp_inl ⟨rfl, rfl, rfl, hs, hc⟩
      · rw [if_neg hh, if_pos rfl, if_neg hh, nI_1]
        exact wp_inl ⟨rfl, rfl, rfl, hs, hc⟩
    cases so with
    | none =>
      rw [if_pos (show s_so none = -1 from rfl)]
      refine wp_bind (wp_mono (xk_all (ρ := ρ') hK hC hb (by omega) ar_16 (by omega) (fun q hq => ⟨h16 q hq, hP.1 q hq⟩) (by decide)) fun q hq => ?_)
      rw [hq.1]
      exact wp_map (fin _ q.2 rfl hq.2.1 hq.2.2)
    | some s =>
      obtain ⟨hs8, p0, hp0, e0⟩ := hso s rfl
      rw [if_neg (show ¬ s_so (some s) = -1 from nI_neq1 (by omega))]
      obtain ⟨u, u1, u2⟩ := x_placeIn (m := m) ar_16 (show k ≤ 9 by omega) (by omega) h16 (nI s)
      rw [show f_X4_placeIn 16 (nI k) (s_so (some s)) m = some (u, m) from u1, o_bs]
      simp only
      obtain ⟨p1, hp1, e1⟩ := hP.2.2 p0 hp0
      rcases u2 with ⟨p, hp, hpf, hpb, rfl⟩ | ⟨ha, _⟩
      · have hps : ρ' p = s := by
          have : ¬ nI (ρ' p) ≠ nI s := of_decide_eq_false hpf
          exact nI_inj (by have := hP.1 p hp; omega) (by omega) (Decidable.of_not_not this)
        refine wp_bind (wp_mono (xk_at (ρ := ρ') hK hC hb (by omega) ar_16 (by omega) (fun q hq => ⟨h16 q hq, hP.1 q hq⟩) hp) fun q hq => ?_)
        rw [hq.1]
        exact wp_map (fin _ q.2 (s_hs_eq (f := lw P w g ρ' k) hP.2.1 hp hps).symm hq.2.1 hq.2.2)
      · have := ha p1 hp1
        unfold pl_f at this
        exact absurd (by rw [e1, e0]) (of_decide_eq_true this)
  | succ i ih =>
    intro K z v ρ' m hv hi hP hK hC h16
    obtain rfl : v = nI (i + 1) := hv.resolve_right fun q => absurd q.1 (by omega)
    have hik : i + 1 < k := hi.resolve_right (by omega)
    refine wp_loop1 ?_
    simp only
    unfold f_X8_lawfulMixings_L34b
    have hmod : s_e (s_zn z) % (i + 2) < i + 2 := Nat.mod_lt _ (by omega)
    rw [if_neg (show ¬ nI (i + 1) < 1 from fun q => by have := (nI_ltI (b := 1) (by omega) (by decide)).mp q; omega), show z * 1103515245 + 12345 = s_zn z from rfl, s_e_nI, nI_1, show i + 1 + 1 = i + 2 from rfl, s_rm (by have := s_e_lt (s_zn z); omega) (by omega) (by omega), o_bs, x_exchange ar_16 (by omega) (by omega), o_bs, nI_am1 (by omega)]
    have hs : oj_sm SX m (oj_row m 16 (o_xc (i + 1) (s_e (s_zn z) % (i + 2)) (m.1 16))) := sm_a fun j => by unfold SX; omega
    refine wp_inl ?_
    have := ih K (s_zn z) (nI (i + 1 - 1)) (r_xc (i + 1) (s_e (s_zn z) % (i + 2)) ρ') (oj_row m 16 (o_xc (i + 1) (s_e (s_zn z) % (i + 2)) (m.1 16))) (Or.inl rfl) (Or.inl (by omega)) (PM_xc hik (by omega) hP) (XK_go hs hK) (CN_row hC (by decide)) (fun q hq => by rw [oj_row_s]; exact xc_nI hik (by omega) h16 hq)
    rw [show i + 1 + K = i + K + 1 by omega]
    refine wp_mono this fun x hx => ?_
    rcases x with s | e
    · obtain ⟨x1, x2, x3, x4, x5⟩ := hx
      exact ⟨x1, x2, x3, sm_trans hs x4, x5⟩
    · exact hx
/-- z and the count behind t mixings -/
def s_mt (P : Option (List (List Int32 × List Int32))) (w : Nat → Int32) (g : Int32) (k : Nat) (so : Option Nat) (ρ : Nat → Nat) (z : Int32) : Nat → Int32 × Nat
  | 0 => (z, 0)
  | t + 1 => ((s_mx (k - 1) (s_mt P w g k so ρ z t).1 ρ).1, if s_hit P w g k so (s_mx (k - 1) (s_mt P w g k so ρ z t).1 ρ).2 = true then (s_mt P w g k so ρ z t).2 + 1 else (s_mt P w g k so ρ z t).2)
theorem m_mixOut {P : Option (List (List Int32 × List Int32))} {w : Nat → Int32} {g : Int32} {k c t N : Nat} {ρ ρ' : Nat → Nat} {so : Option Nat} {v2 z v7 : Int32} {m : ej_M} (hN : N ≤ 8) (hk8 : k ≤ 8) (hso : ∀ s, so = some s → s < 2 ^ 31) (hP : PM k N ρ ρ') (hK : MK P w g N m) (h4 : m.1 41 4 = nI k) (h29 : m.1 41 29 = nI k) (h56 : ∀ q, q < k → m.1 56 q = nI (ρ' q)) (h7 : v7 = if so = none ∧ LWf P w g k ρ' = true then 1 else 0) :
    oj_wp (f_X11_mixed_L121 v2 (s_so so) z (nI c) (nI t) v7 0 m) (oj_k (fun s => s.1 = z ∧ s.2.1 = nI (if s_hit P w g k so ρ' = true then c + 1 else c) ∧ s.2.2.1 = nI (t + 1) ∧ oj_sm SM m s.2.2.2) fun _ => False) := by
  unfold f_X11_mixed_L121
  cases so with
  | none =>
    refine wp_loop (fun i (s : Int32 × Int32 × ej_M) => s.1 = v7 ∧ s.2.1 = nI i ∧ s.2.2 = m) k (by unfold oj_FU; omega) (fun i s hi hI => ?_) (fun s hI => ?_) (i0 := 0) (by omega) ⟨rfl, rfl, rfl⟩
    · obtain ⟨a, a', m'⟩ := s
      obtain ⟨j1, j2, j3⟩ := hI
      simp only at j1 j2 j3 ⊢
      rw [j1, j2, j3]
      unfold f_X11_mixed_L121b
      rw [h4, if_neg (fun q => by have := (nI_leI (by omega) (by omega)).mp q; omega), oj_ar_ld ar_56 (by omega), o_bs, h56 i hi, if_neg (show ¬ nI (ρ' i) = s_so none from nI_neq1 (by have := hP.1 i hi; omega)), nI_1]
      exact wp_inl ⟨rfl, rfl, rfl⟩
    · obtain ⟨a, a', m'⟩ := s
      obtain ⟨j1, j2, j3⟩ := hI
      simp only at j1 j2 j3 ⊢
      rw [j1, j2, j3]
      unfold f_X11_mixed_L121b
      rw [h4, if_pos (Int32.le_refl _)]
      by_cases hl : LWf P w g k ρ' = true
      · rw [show v7 = 1 by rw [h7, if_pos ⟨rfl, hl⟩], if_neg i10, nI_1, nI_1]
        exact wp_inr ⟨rfl, by unfold s_hit; rw [if_pos hl], rfl, sm_refl⟩
      · rw [show v7 = 0 by rw [h7, if_neg (fun q => hl q.2)], if_pos rfl, nI_1]
        exact wp_inr ⟨rfl, by unfold s_hit; rw [if_neg hl], rfl, sm_refl⟩
  | some s0 =>
    have h7' : v7 = 0 := by rw [h7, if_neg (fun q => by cases q.1)]
    refine wp_loop (fun i (s : Int32 × Int32 × ej_M) => s.1 = (if lwA (fun p => !(decide (nI (ρ' p) = nI s0) && lw P w g ρ' k p)) i = true then 0 else 1) ∧ s.2.1 = nI i ∧ oj_sm MC m s.2.2) k (by unfold oj_FU; omega) (fun i s hi hI => ?_) (fun s hI => ?_) (i0 := 0) (by omega) ⟨?_, rfl, sm_refl⟩
    · obtain ⟨a, a', m'⟩ := s
      obtain ⟨rfl, rfl, i1⟩ := hI
      simp only at i1 ⊢
      unfold f_X11_mixed_L121b
      rw [i1.2 41 4 (by unfold MC; omega), h4, if_neg (fun q => by have := (nI_leI (by omega) (by omega)).mp q; omega), oj_ar_ld ar_56 (by omega), o_bs, i1.2 56 i (by unfold MC; omega), h56 i hi]
      have hstep : ∀ x : Bool, (!(decide (nI (ρ' i) = nI s0) && lw P w g ρ' k i)) = x → lwA (fun p => !(decide (nI (ρ' p) = nI s0) && lw P w g ρ' k p)) (i + 1) = (lwA (fun p => !(decide (nI (ρ' p) = nI s0) && lw P w g ρ' k p)) i && x) := fun x hx => by
        rw [lwA_succ]
        exact congrArg (fun z => lwA (fun p => !(decide (nI (ρ' p) = nI s0) && lw P w g ρ' k p)) i && z) hx
      by_cases e : nI (ρ' i) = nI s0
      · rw [if_pos (show nI (ρ' i) = s_so (some s0) from e)]
        refine wp_bind (wp_mono (mk_at (ρ := ρ') (N := N) (MK_go hN (sm_MC i1) hK) hN (by omega) ((i1.2 41 29 (by unfold MC; omega)).trans h29) (fun q hq => ⟨(i1.2 56 q (by unfold MC; omega)).trans (h56 q hq), hP.1 q hq⟩) hi) fun q hq => ?_)
        rw [hq.1]
        by_cases hl : lw P w g ρ' k i = true
        · rw [if_pos hl, if_neg i10, nI_1]
          refine wp_inl ⟨?_, rfl, sm_trans i1 hq.2⟩
          simp only
          rw [hstep false (by rw [hl, decide_eq_true e]; rfl), Bool.and_false]
          rfl
        · have hlf : lw P w g ρ' k i = false := by simpa using hl
          rw [if_neg hl, if_pos rfl, nI_1]
          refine wp_inl ⟨?_, rfl, sm_trans i1 hq.2⟩
          simp only
          rw [hstep true (by rw [hlf, Bool.and_false]; rfl), Bool.and_true]
      · rw [if_neg (show ¬ nI (ρ' i) = s_so (some s0) from e), nI_1]
        refine wp_inl ⟨?_, rfl, i1⟩
        simp only
        rw [hstep true (by rw [decide_eq_false e]; rfl), Bool.and_true]
    · obtain ⟨a, a', m'⟩ := s
      obtain ⟨rfl, rfl, i1⟩ := hI
      simp only at i1 ⊢
      unfold f_X11_mixed_L121b
      rw [i1.2 41 4 (by unfold MC; omega), h4, if_pos (Int32.le_refl _)]
      have hh : s_hit P w g k (some s0) ρ' = !(lwA (fun p => !(decide (nI (ρ' p) = nI s0) && lw P w g ρ' k p)) k) := by
        show (!(lwA (fun p => !(decide (ρ' p = s0) && lw P w g ρ' k p)) k)) = _
        refine congrArg (fun b => !b) (lwA_congr fun p hp => ?_)
        have : (ρ' p = s0) ↔ (nI (ρ' p) = nI s0) := ((nI_eq (by have := hP.1 p hp; omega) (hso s0 rfl)).symm)
        simp only [this]
      rw [hh]
      by_cases hl : lwA (fun p => !(decide (nI (ρ' p) = nI s0) && lw P w g ρ' k p)) k = true
      · rw [if_pos hl, if_pos rfl, nI_1, hl]
        exact wp_inr ⟨rfl, rfl, rfl, sm_MC i1⟩
      · have hlf : lwA (fun p => !(decide (nI (ρ' p) = nI s0) && lw P w g ρ' k p)) k = false := by simpa using hl
        rw [if_neg hl, if_neg i10, nI_1, nI_1, hlf]
        exact wp_inr ⟨rfl, rfl, rfl, sm_MC i1⟩
    · simp only
      rw [h7', if_pos]
      exact decide_eq_true fun p hp => absurd hp (Nat.not_lt_zero _)
theorem m_mixIn {P : Option (List (List Int32 × List Int32))} {w : Nat → Int32} {g : Int32} {k c t N : Nat} {ρ : Nat → Nat} {so : Option Nat} {v2 : Int32} (hN : N ≤ 8) (hk8 : k ≤ 8) (hso : ∀ s, so = some s → s < 2 ^ 31) :
    ∀ (i K : Nat) (z v : Int32) (ρ' : Nat → Nat) (m : ej_M), (v = nI i ∨ (i = 0 ∧ v = -1)) → (i < k ∨ i = 0) → PM k N ρ ρ' → MK P w g N m → m.1 41 4 = nI k → m.1 41 29 = nI k → (∀ q, q < k → m.1 56 q = nI (ρ' q)) →
    oj_wp (oj_loop (fun q : (Int32 × Int32 × ej_M) => f_X11_mixed_L60b v2 (s_so so) (nI c) (nI t) q.1 q.2.1 q.2.2) (i + K + 1) (z, v, m)) (oj_k (fun s => s.1 = (s_mx i z ρ').1 ∧ s.2.1 = nI (if s_hit P w g k so (s_mx i z ρ').2 = true then c + 1 else c) ∧ s.2.2.1 = nI (t + 1) ∧ oj_sm SM m s.2.2.2) fun _ => False) := by
  intro i
  induction i with
  | zero =>
    intro K z v ρ' m hv hi hP hK h4 h29 h56
    refine wp_loop1 ?_
    simp only
    unfold f_X11_mixed_L60b
    rw [if_pos (show v < 1 from by rcases hv with rfl | ⟨_, rfl⟩ <;> decide)]
    have fin : ∀ (v7 : Int32) (m2 : ej_M), v7 = (if so = none ∧ LWf P w g k ρ' = true then 1 else 0) → oj_sm MC m m2 → oj_wp (f_X11_mixed_L121 v2 (s_so so) z (nI c) (nI t) v7 0 m2) (oj_k (fun s => s.1 = z ∧ s.2.1 = nI (if s_hit P w g k so ρ' = true then c + 1 else c) ∧ s.2.2.1 = nI (t + 1) ∧ oj_sm SM m s.2.2.2) fun _ => False) := fun v7 m2 e hs => by
      refine wp_mono (m_mixOut (v2 := v2) (z := z) (c := c) (t := t) hN hk8 hso hP (MK_go hN (sm_MC hs) hK) ((hs.2 41 4 (by unfold MC; omega)).trans h4) ((hs.2 41 29 (by unfold MC; omega)).trans h29) (fun q hq => (hs.2 56 q (by unfold MC; omega)).trans (h56 q hq)) e) fun x hx => ?_
      rcases x with s | x
      · obtain ⟨x1, x2, x3, x4⟩ := hx
        exact ⟨x1, x2, x3, sm_trans (sm_MC hs) x4⟩
      · exact hx
    cases so with
    | none =>
      rw [if_neg (show ¬ 0 ≤ s_so none by decide)]
      refine wp_bind (wp_mono (mk_all (ρ := ρ') (N := N) hK hN (by omega) h29 (fun q hq => ⟨h56 q hq, hP.1 q hq⟩)) fun q hq => ?_)
      rw [hq.1]
      by_cases hl : LWf P w g k ρ' = true
      · rw [if_pos hl, if_neg i10]
        exact wp_map (fin 1 q.2 (by rw [if_pos ⟨rfl, hl⟩]) hq.2)
      · rw [if_neg hl, if_pos rfl]
        exact wp_map (fin 0 q.2 (by rw [if_neg (fun z => hl z.2)]) hq.2)
    | some s =>
      rw [if_pos (show 0 ≤ s_so (some s) from nI_0le (hso s rfl))]
      exact wp_map (fin 0 m (by rw [if_neg (fun z => by cases z.1)]) sm_refl)
  | succ i ih =>
    intro K z v ρ' m hv hi hP hK h4 h29 h56
    obtain rfl : v = nI (i + 1) := hv.resolve_right fun q => absurd q.1 (by omega)
    have hik : i + 1 < k := hi.resolve_right (by omega)
    refine wp_loop1 ?_
    simp only
    unfold f_X11_mixed_L60b
    have hmod : s_e (s_zn z) % (i + 2) < i + 2 := Nat.mod_lt _ (by omega)
    rw [if_neg (show ¬ nI (i + 1) < 1 from fun q => by have := (nI_ltI (b := 1) (by omega) (by decide)).mp q; omega), show z * 1103515245 + 12345 = s_zn z from rfl, s_e_nI, nI_1, show i + 1 + 1 = i + 2 from rfl, s_rm (by have := s_e_lt (s_zn z); omega) (by omega) (by omega), o_bs, m_swap (by omega) (by omega), o_bs, nI_am1 (by omega)]
    have hs : oj_sm SM m (oj_row m 56 (o_xc (i + 1) (s_e (s_zn z) % (i + 2)) (m.1 56))) := sm_a fun j => by unfold SM; omega
    refine wp_inl ?_
    have := ih K (s_zn z) (nI (i + 1 - 1)) (r_xc (i + 1) (s_e (s_zn z) % (i + 2)) ρ') (oj_row m 56 (o_xc (i + 1) (s_e (s_zn z) % (i + 2)) (m.1 56))) (Or.inl rfl) (Or.inl (by omega)) (PM_xc hik (by omega) hP) (MK_go hN hs hK) (by rw [oj_row_n (by decide)]; exact h4) (by rw [oj_row_n (by decide)]; exact h29) (fun q hq => by rw [oj_row_s]; exact xc_nI hik (by omega) h56 hq)
    rw [show i + 1 + K = i + K + 1 by omega]
    refine wp_mono this fun x hx => ?_
    rcases x with s | e
    · obtain ⟨x1, x2, x3, x4⟩ := hx
      exact ⟨x1, x2, x3, sm_trans hs x4⟩
    · exact hx
theorem op_mixedN {v1 : Int32} {T : Nat} (hT1 : 1 ≤ T) (hT2 : T ≤ 50) (so : Option Nat) {L : Nat} {xs : Nat → Int32} {n k b : Nat} {ρ : Nat → Nat} {P : Option (List (List Int32 × List Int32))} {nb : Nat} {m : ej_M} (hI : IV L xs n k ρ P nb m) (hC : CB P b m) (hb : b + oST < 2 ^ 28) (hso : ∀ s, so = some s → s < n ∧ ∃ p, p < k ∧ ρ p = s) :
    oj_wp (f_X8_lawfulMixings v1 (nI T) (s_so so) m) fun q => oj_sm SX m q.2 ∧ CB P (b + oST) q.2 ∧ ∀ m', IV L xs n k ρ P nb m' → oj_sm SX m m' → oj_wp (f_X11_mixed_L42 (nI T) (s_so so) v1 0 0 m') fun r => q.1 = r.1 ∧ oj_sm SM m' r.2 := by
  obtain ⟨h1, h2, h3, h4, h5, h6, h7, h8, h9, h10, h11, h12, h13, h14, h15⟩ := id hI.1
  have hk8 : k ≤ 8 := by omega
  have hK := IV_XK hI
  have hPM : PM k n ρ ρ := ⟨fun q hq => (h8 q hq).2.2, h9, fun p hp => ⟨p, hp, rfl⟩⟩
  have hPM8 : PM k 8 ρ ρ := ⟨fun q hq => by have := (h8 q hq).2.2; omega, h9, fun p hp => ⟨p, hp, rfl⟩⟩
  have hv : (nI k - 1 = nI (k - 1) ∨ (k - 1 = 0 ∧ nI k - 1 = -1)) := by
    by_cases e : k = 0
    · subst e; exact Or.inr ⟨rfl, by decide⟩
    · exact Or.inl (nI_m1 (by omega))
  have hX : oj_wp (f_X8_lawfulMixings v1 (nI T) (s_so so) m) fun q => q.1 = nI (s_mt P (m.1 7) (m.1 6 5) k so ρ v1 T).2 ∧ oj_sm SX m q.2 ∧ CN P k (b + 1) q.2 := by
    unfold f_X8_lawfulMixings f_X8_lawfulMixings_L18
    rw [h5]
    refine wp_loop (fun t (s : Int32 × Int32 × Int32 × ej_M) => s.1 = nI (s_mt P (m.1 7) (m.1 6 5) k so ρ v1 t).2 ∧ s.2.1 = (s_mt P (m.1 7) (m.1 6 5) k so ρ v1 t).1 ∧ s.2.2.1 = nI t ∧ oj_sm SX m s.2.2.2 ∧ CN P k (b + 1) s.2.2.2) T (by unfold oj_FU; omega) (fun t s ht hJ => ?_) (fun s hJ => ?_) (i0 := 0) (by omega) ⟨rfl, rfl, rfl, sm_refl, CB_N hC _⟩
    · obtain ⟨a, a', a'', m'⟩ := s
      obtain ⟨rfl, rfl, rfl, i1, i2⟩ := hJ
      simp only at i1 i2 ⊢
      unfold f_X8_lawfulMixings_L18b f_X8_lawfulMixings_L34
      rw [if_neg (fun q => by have := (nI_leI (by omega) (by omega)).mp q; omega), x_begin ((i1.2 6 4 (by unfold SX; omega)).trans h5) hk8, o_bs]
      simp only
      have hs : oj_sm SX m' (oj_row m' 16 (o_cp k (m'.1 8) (m'.1 16))) := sm_a fun j => by unfold SX; omega
      have := x_mixIn (P := P) (w := m.1 7) (g := m.1 6 5) (b := b + 1) (c := (s_mt P (m.1 7) (m.1 6 5) k so ρ v1 t).2) (t := t) (ρ := ρ) (so := so) (v2 := nI T) hk8 (by unfold oST at hb; omega) (fun s e => ⟨by have := (hso s e).1; omega, (hso s e).2⟩) (k - 1) (oj_FU - (k - 1) - 1) (s_mt P (m.1 7) (m.1 6 5) k so ρ v1 t).1 (nI k - 1) ρ (oj_row m' 16 (o_cp k (m'.1 8) (m'.1 16))) hv (by omega) hPM8 (XK_go (sm_trans i1 hs) hK) (CN_row i2 (by decide)) (fun q hq => by
        rw [oj_row_s]
        unfold o_cp
        rw [if_pos hq, i1.2 8 q (by unfold SX; omega)]
        exact (h8 q hq).1)
      rw [show k - 1 + (oj_FU - (k - 1) - 1) + 1 = oj_FU by unfold oj_FU; omega] at this
      refine wp_mono this fun x hx => ?_
      rcases x with s | e
      · obtain ⟨x1, x2, x3, x4, x5⟩ := hx
        exact ⟨x1, x2, x3, sm_trans (sm_trans i1 hs) x4, x5⟩
      · exact absurd hx id
    · obtain ⟨a, a', a'', m'⟩ := s
      obtain ⟨rfl, rfl, rfl, i1, i2⟩ := hJ
      simp only at i1 i2 ⊢
      unfold f_X8_lawfulMixings_L18b
      rw [if_pos (Int32.le_refl _)]
      exact wp_inr ⟨rfl, i1, i2⟩
  refine wp_mono hX fun q hq => ⟨hq.2.1, CN_step hq.2.2, fun m' hI' hs => ?_⟩
  rw [hq.1]
  obtain ⟨g1, g2, g3, g4, g5, g6, g7, g8, g9, g10, g11, g12, g13, g14, g15⟩ := id hI'.1
  have hM := IV_MK hI' hs
  unfold f_X11_mixed_L42
  refine wp_loop (fun t (s : Int32 × Int32 × Int32 × ej_M) => s.1 = (s_mt P (m.1 7) (m.1 6 5) k so ρ v1 t).1 ∧ s.2.1 = nI (s_mt P (m.1 7) (m.1 6 5) k so ρ v1 t).2 ∧ s.2.2.1 = nI t ∧ oj_sm SM m' s.2.2.2) T (by unfold oj_FU; omega) (fun t s ht hJ => ?_) (fun s hJ => ?_) (i0 := 0) (by omega) ⟨rfl, rfl, rfl, sm_refl⟩
  · obtain ⟨a, a', a'', m2⟩ := s
    obtain ⟨rfl, rfl, rfl, i1⟩ := hJ
    simp only at i1 ⊢
    have e4 : m2.1 41 4 = nI k := (i1.2 41 4 (by unfold SM; omega)).trans g6
    unfold f_X11_mixed_L42b f_X11_mixed_L60
    rw [if_neg (fun q => by have := (nI_leI (by omega) (by omega)).mp q; omega)]
    refine wp_bind (wp_mono (mk_see (ρ := ρ) (MK_go h1 i1 hM) e4 hk8 (fun q hq => ⟨(i1.2 43 q (by unfold SM; omega)).trans (g8 q hq).2.1, by have := (g8 q hq).2.2; omega⟩)) fun r hr => ?_)
    obtain ⟨r1, r2, r3⟩ := hr
    have e4' : r.2.1 41 4 = nI k := (SE_4 r1).trans e4
    rw [e4']
    have := m_mixIn (P := P) (w := m.1 7) (g := m.1 6 5) (c := (s_mt P (m.1 7) (m.1 6 5) k so ρ v1 t).2) (t := t) (ρ := ρ) (so := so) (v2 := nI T) h1 hk8 (fun s e => by have := (hso s e).1; omega) (k - 1) (oj_FU - (k - 1) - 1) (s_mt P (m.1 7) (m.1 6 5) k so ρ v1 t).1 (nI k - 1) ρ r.2 hv (by omega) hPM (MK_go h1 (sm_trans i1 (sm_SE r1)) hM) e4' r2 r3
    rw [show k - 1 + (oj_FU - (k - 1) - 1) + 1 = oj_FU by unfold oj_FU; omega] at this
    refine wp_mono this fun x hx => ?_
    rcases x with s | e
    · obtain ⟨x1, x2, x3, x4⟩ := hx
      exact ⟨x1, x2, x3, sm_trans (sm_trans i1 (sm_SE r1)) x4⟩
    · exact absurd hx id
  · obtain ⟨a, a', a'', m2⟩ := s
    obtain ⟨rfl, rfl, rfl, i1⟩ := hJ
    simp only at i1 ⊢
    unfold f_X11_mixed_L42b
    rw [if_pos (Int32.le_refl _)]
    exact wp_inr ⟨rfl, i1⟩
theorem op_mixed (v1 v2 v3 : Int32) : OP (f_X10_mixed v1 v2 v3) (f_X11_mixed v1 v2 v3) := by
  by_cases hT : 1 ≤ v2 ∧ v2 ≤ 50
  · obtain ⟨T, hTl, rfl⟩ := nI_of (x := v2) (fun q => absurd (Int32.lt_of_lt_of_le q (by decide : (0 : Int32) ≤ 1)) (fun z => absurd (Int32.lt_of_le_of_lt hT.1 z) (by decide)))
    have hT1 : 1 ≤ T := (nI_leI (a := 1) (by decide) hTl).mp hT.1
    have hT2 : T ≤ 50 := (nI_leI (b := 50) hTl (by decide)).mp hT.2
    have hlt : ¬ nI T < 1 := Int32.not_lt.mpr hT.1
    refine OP_ask fun L xs n k ρ P nb b m hI hC hb => ?_
    obtain ⟨h1, h2, h3, h4, h5, h6, h7, h8, h9, h10, h11, h12, h13, h14, h15⟩ := id hI.1
    unfold f_X10_mixed f_X10_mixed_B44
    rw [if_neg hlt, if_pos hT.2]
    by_cases e : v3 = -1
    · rw [if_pos e]
      have := op_mixedN (v1 := v1) hT1 hT2 none hI hC hb (fun s q => by cases q)
      rw [show s_so none = v3 from e.symm] at this
      refine wp_bind (wp_mono this fun q hq => wp_some ⟨hq.1, hq.2.1, fun m' hI' hs => ?_⟩)
      unfold f_X11_mixed
      rw [p_in1 hT.1 hT.2, o_bs, if_neg i10, if_pos e]
      exact hq.2.2 m' hI' hs
    · rw [if_neg e]
      have hno : f_X10_mixed v1 (nI T) v3 m = some (-1, m) → (∀ m', IV L xs n k ρ P nb m' → f_X11_mixed v1 (nI T) v3 m' = some (-1, m')) → oj_wp (f_X10_mixed v1 (nI T) v3 m) fun q => oj_sm SX m q.2 ∧ CB P (b + oST) q.2 ∧ ∀ m', IV L xs n k ρ P nb m' → oj_sm SX m m' → oj_wp (f_X11_mixed v1 (nI T) v3 m') fun r => q.1 = r.1 ∧ oj_sm SM m' r.2 := fun e1 e2 => by
        rw [e1]
        refine wp_some ⟨sm_refl, CB_step hC, fun m' hI' hs => ?_⟩
        rw [e2 m' hI']
        exact wp_some ⟨rfl, sm_refl⟩
      rcases r_cases v3 n with ⟨s, hs, rfl⟩ | hN
      · obtain ⟨u, u1, u2⟩ := IV_placeX hI (nI s)
        have hm : ∀ m', IV L xs n k ρ P nb m' → f_X11_mixed v1 (nI T) (nI s) m' = if 0 ≤ u then f_X11_mixed_L42 (nI T) (nI s) v1 0 0 m' else some (-1, m') := fun m' hI' => by
          obtain ⟨u', w1, w2⟩ := IV_placeM hI' (nI s)
          have : u' = u := fst_eq w2 u2
          subst this
          unfold f_X11_mixed
          rw [p_in1 hT.1 hT.2, o_bs, if_neg i10, if_neg e, m_stoneY hI'.1.2.2.2.1 (by omega) hs, o_bs, if_neg i10, w1, o_bs]
        rcases u2 with ⟨p, p1, p2, p3, rfl⟩ | ⟨p1, rfl⟩
        · have hps : ρ p = s := by
            have : ¬ nI (ρ p) ≠ nI s := of_decide_eq_false p2
            exact nI_inj (by have := (h8 p p1).2.2; omega) (by omega) (Decidable.of_not_not this)
          rw [x_hasY h3 (by omega) hs, o_bs, if_neg i10]
          simp only
          rw [u1, o_bs, if_neg (nI_neq2 (by omega))]
          have := op_mixedN (v1 := v1) hT1 hT2 (some s) hI hC hb (fun s' q => by cases q; exact ⟨hs, p, p1, hps⟩)
          refine wp_bind (wp_mono this fun q hq => wp_some ⟨hq.1, hq.2.1, fun m' hI' hs' => ?_⟩)
          rw [hm m' hI', if_pos (nI_0le (by omega))]
          exact hq.2.2 m' hI' hs'
        · have hx : f_X10_mixed v1 (nI T) (nI s) m = some (-1, m) := by
            unfold f_X10_mixed
            rw [if_neg hlt, if_pos hT.2, if_neg e, x_hasY h3 (by omega) hs, o_bs, if_neg i10]
            simp only
            rw [u1, o_bs, if_pos rfl]
          have := hno hx (fun m' hI' => by rw [hm m' hI', if_neg (by decide)])
          unfold f_X10_mixed f_X10_mixed_B44 at this
          rw [if_neg hlt, if_pos hT.2, if_neg e] at this
          exact this
      · have hx : f_X10_mixed v1 (nI T) v3 m = some (-1, m) := by
          unfold f_X10_mixed
          rw [if_neg hlt, if_pos hT.2, if_neg e, x_hasN h3 (by omega) hN, o_bs, if_pos rfl]
        have := hno hx (fun m' hI' => by
          unfold f_X11_mixed
          rw [p_in1 hT.1 hT.2, o_bs, if_neg i10, if_neg e, m_stoneN hI'.1.2.2.2.1 (by omega) hN, o_bs, if_pos rfl])
        unfold f_X10_mixed f_X10_mixed_B44 at this
        rw [if_neg hlt, if_pos hT.2, if_neg e] at this
        exact this
  · refine OP_no (v := -1) (fun m => ?_) (fun m => ?_)
    · unfold f_X10_mixed
      by_cases a : v2 < 1
      · rw [if_pos a]
      · rw [if_neg a, if_neg (fun c => hT ⟨Int32.not_lt.mp a, c⟩)]
    · unfold f_X11_mixed
      rw [p_in0 hT, o_bs, if_pos rfl]
/-! makeUp -/
def w8 (w : Nat → Int32) (v i : Nat) : Int32 := if i = 8 then nI v else w i
def mu_f (P : Option (List (List Int32 × List Int32))) (w : Nat → Int32) (g : Int32) (k : Nat) (ρ : Nat → Nat) (v p : Nat) : Bool := LWf P (w8 w v) g (k + 1) (r_in p 8 ρ)
/-- the first weight and place -/
def MF (f : Nat → Nat → Bool) (k : Nat) (r : Option (Nat × Nat)) : Prop := match r with
  | none => ∀ v, 1 ≤ v → v ≤ 99 → ∀ p, p ≤ k → f v p = false
  | some q => 1 ≤ q.1 ∧ q.1 ≤ 99 ∧ q.2 ≤ k ∧ f q.1 q.2 = true ∧ (∀ p, p < q.2 → f q.1 p = false) ∧ ∀ v, 1 ≤ v → v < q.1 → ∀ p, p ≤ k → f v p = false
theorem MF_eq {f : Nat → Nat → Bool} {k : Nat} {r r' : Option (Nat × Nat)} (h : MF f k r) (h' : MF f k r') : r = r' := by
  have key : ∀ v p v' p', MF f k (some (v, p)) → MF f k (some (v', p')) → v ≤ v' ∧ (v = v' → p ≤ p') := fun v p v' p' a c => by
    obtain ⟨a1, a2, a3, a4, a5, a6⟩ := a
    obtain ⟨c1, c2, c3, c4, c5, c6⟩ := c
    simp only at *
    refine ⟨?_, fun e => ?_⟩
    · by_cases q : v ≤ v'
      · exact q
      · have := a6 v' c1 (by omega) p' c3
        rw [this] at c4; cases c4
    · subst e
      by_cases q : p ≤ p'
      · exact q
      · have := a5 p' (by omega)
        rw [this] at c4; cases c4
  cases r with
  | none =>
    cases r' with
    | none => rfl
    | some q =>
      obtain ⟨c1, c2, c3, c4, _⟩ := h'
      have := h q.1 c1 c2 q.2 c3
      rw [this] at c4; cases c4
  | some q =>
    cases r' with
    | none =>
      obtain ⟨c1, c2, c3, c4, _⟩ := h
      have := h' q.1 c1 c2 q.2 c3
      rw [this] at c4; cases c4
    | some q' =>
      obtain ⟨v, p⟩ := q
      obtain ⟨v', p'⟩ := q'
      obtain ⟨e1, e2⟩ := key _ _ _ _ h h'
      obtain ⟨e3, e4⟩ := key _ _ _ _ h' h
      have : v = v' := by omega
      subst this
      have : p = p' := by have := e2 rfl; have := e4 rfl; omega
      rw [this]
theorem in_nI {p k q : Nat} {f : Nat → Int32} {ρ : Nat → Nat} (hp : p ≤ k) (h : ∀ q, q < k → f q = nI (ρ q)) (hq : q < k + 1) : o_in k p 8 f q = nI (r_in p 8 ρ q) := by
  unfold o_in r_in
  by_cases e : q = p
  · rw [if_pos e, if_pos e]; rfl
  · rw [if_neg e, if_neg e]
    by_cases e2 : p < q
    · rw [if_pos ⟨e2, by omega⟩, if_pos e2]; exact h _ (by omega)
    · rw [if_neg (fun z => e2 z.1), if_neg e2]; exact h _ (by omega)
theorem in_lt {p k q N : Nat} {ρ : Nat → Nat} (hN : N ≤ 8) (hp : p ≤ k) (h : ∀ q, q < k → ρ q < N) (hq : q < k + 1) : r_in p 8 ρ q < 9 := by
  unfold r_in
  by_cases e : q = p
  · rw [if_pos e]; decide
  · rw [if_neg e]
    by_cases e2 : p < q
    · rw [if_pos e2]; have := h (q - 1) (by omega); omega
    · rw [if_neg e2]; have := h q (by omega); omega
theorem x_weigh8 {m : ej_M} {v : Int32} : f_X4_weigh 8 v m = some ((), oj_row m 7 (upd (m.1 7) 8 v)) := by
  unfold f_X4_weigh
  rw [show f_X10_lay 7 8 v m = some ((), oj_row m 7 (upd (m.1 7) 8 v)) from p_lay1 (k := 8) ar_7 (by decide) v m, o_bs, if_pos rfl]
theorem x_muIn {P : Option (List (List Int32 × List Int32))} {w : Nat → Int32} {g : Int32} {k b v : Nat} {ρ : Nat → Nat} {m : ej_M} (hk8 : k ≤ 8) (hb : b < 2 ^ 28) (hK : XK P w g m) (h5 : m.1 6 4 = nI k) (h8 : ∀ q, q < k → m.1 8 q = nI (ρ q) ∧ ρ q < 8) (hC : CN P (k + 1) b m) (h78 : m.1 7 8 = nI v) (hv : v < 1000) :
    oj_wp (f_X8_findMakingUp_L28 (nI k) (nI v) 0 m) (oj_k (fun s => s.1 = nI (v + 1) ∧ oj_sm SX m s.2 ∧ CN P (k + 1) b s.2 ∧ ∀ p, p ≤ k → mu_f P w g k ρ v p = false) fun e => e.1 = 1 ∧ oj_sm SX m e.2 ∧ CN P (k + 1) b e.2 ∧ e.2.1 7 8 = nI v ∧ ∃ p, p ≤ k ∧ e.2.1 15 3 = nI p ∧ mu_f P w g k ρ v p = true ∧ ∀ p', p' < p → mu_f P w g k ρ v p' = false) := by
  unfold f_X8_findMakingUp_L28
  refine wp_loop (fun p (s : Int32 × ej_M) => s.1 = nI p ∧ oj_sm SX m s.2 ∧ CN P (k + 1) b s.2 ∧ s.2.1 7 8 = nI v ∧ ∀ p', p' < p → mu_f P w g k ρ v p' = false) (k + 1) (by unfold oj_FU; omega) (fun p s hp hI => ?_) (fun s hI => ?_) (i0 := 0) (by omega) ⟨rfl, sm_refl, hC, h78, fun p' h => absurd h (Nat.not_lt_zero _)⟩
  · obtain ⟨a, m'⟩ := s
    obtain ⟨rfl, i1, i2, i3, i4⟩ := hI
    simp only at i1 i2 i3 i4 ⊢
    unfold f_X8_findMakingUp_L28b
    rw [if_neg (fun q => by have := (nI_ltI (by omega) (by omega)).mp q; omega), x_begin ((i1.2 6 4 (by unfold SX; omega)).trans h5) hk8, o_bs]
    simp only
    rw [x_insert ar_16 (by omega) (by omega) (show p ≤ k by omega), o_bs]
    unfold oj_pf
    rw [o_bs, oj_row_row, oj_row_s, nI_1]
    simp only
    have hs : oj_sm (fun a j => a = 16 ∨ (a = 15 ∧ j = 3)) m' (ej_w (oj_row m' 16 (o_in k p 8 (o_cp k (m'.1 8) (m'.1 16)))) 15 3 (nI p)) := sm_trans (sm_a fun j => Or.inl rfl) (sm_w (Or.inr ⟨rfl, rfl⟩))
    have hsX : oj_sm SX m' (ej_w (oj_row m' 16 (o_in k p 8 (o_cp k (m'.1 8) (m'.1 16)))) 15 3 (nI p)) := sm_mono hs fun a j q => by unfold SX; omega
    have e16 : (ej_w (oj_row m' 16 (o_in k p 8 (o_cp k (m'.1 8) (m'.1 16)))) 15 3 (nI p)).1 16 = o_in k p 8 (o_cp k (m'.1 8) (m'.1 16)) := by rw [w_place (by decide), oj_row_s]
    have e15 : (ej_w (oj_row m' 16 (o_in k p 8 (o_cp k (m'.1 8) (m'.1 16)))) 15 3 (nI p)).1 15 3 = nI p := w_same
    generalize ej_w (oj_row m' 16 (o_in k p 8 (o_cp k (m'.1 8) (m'.1 16)))) 15 3 (nI p) = m2 at hs hsX e16 e15 ⊢
    have hK2 := XK_go (sm_trans i1 hsX) hK
    have e78 : m2.1 7 8 = nI v := (hs.2 7 8 (by omega)).trans i3
    have hlt : ∀ q, q < k → ρ q < 8 := fun q hq => (h8 q hq).2
    have hXR : XR P 16 (k + 1) (r_in p 8 ρ) b m2 := ⟨hK2.1, CN_fr hs i2 (fun i => by omega) (by omega) (by omega) (fun i hi => by omega), hb, by omega, ⟨9, ar_16, by omega⟩, fun q hq => ⟨by
      rw [e16]
      exact in_nI (by omega) (fun q hq => by
        unfold o_cp
        rw [if_pos hq, i1.2 8 q (by unfold SX; omega)]
        exact (h8 q hq).1) hq, in_lt (N := 8) (Nat.le_refl _) (show p ≤ k by omega) hlt hq⟩⟩
    refine wp_bind (wp_mono (x_all hXR (by decide)) fun q hq => ?_)
    obtain ⟨q1, q2, q3⟩ := hq
    have hf : lwA (lw P (m2.1 7) (m2.1 6 5) (r_in p 8 ρ) (k + 1)) (k + 1) = mu_f P w g k ρ v p := by
      unfold mu_f LWf
      rw [hK2.2.1]
      refine lwA_congr fun r hr => lw_congr hr fun q hq => ⟨rfl, ?_⟩
      unfold w8
      have := in_lt (N := 8) (Nat.le_refl _) (show p ≤ k by omega) hlt hq
      by_cases e : r_in p 8 ρ q = 8
      · rw [if_pos e, e]; exact e78
      · rw [if_neg e]; exact hK2.2.2 _ (by omega)
    rw [hf] at q1
    have hs3 : oj_sm SX m q.2 := sm_trans (sm_trans i1 hsX) (sm_XC q2)
    have e78' : q.2.1 7 8 = nI v := (q2.2 7 8 (by unfold XC; omega)).trans e78
    by_cases hl : mu_f P w g k ρ v p = true
    · rw [q1, if_pos hl, if_neg i10]
      exact wp_inr ⟨rfl, hs3, q3, e78', p, by omega, (q2.2 15 3 (by unfold XC; omega)).trans e15, hl, i4⟩
    · rw [q1, if_neg hl, if_pos rfl, nI_1]
      refine wp_inl ⟨rfl, hs3, q3, e78', fun p' hp' => ?_⟩
      by_cases e : p' = p
      · rw [e]; simpa using hl
      · exact i4 p' (by omega)
  · obtain ⟨a, m'⟩ := s
    obtain ⟨rfl, i1, i2, i3, i4⟩ := hI
    simp only at i1 i2 i3 i4 ⊢
    unfold f_X8_findMakingUp_L28b
    rw [if_pos ((nI_ltI (by omega) (by omega)).mpr (by omega)), nI_1]
    exact wp_inr ⟨rfl, i1, i2, fun p hp => i4 p (by omega)⟩
theorem x_mu {P : Option (List (List Int32 × List Int32))} {w : Nat → Int32} {g : Int32} {k b : Nat} {ρ : Nat → Nat} {m : ej_M} (hk8 : k ≤ 8) (hb : b < 2 ^ 28) (hK : XK P w g m) (h5 : m.1 6 4 = nI k) (h8 : ∀ q, q < k → m.1 8 q = nI (ρ q) ∧ ρ q < 8) (hC : CN P (k + 1) b m) :
    oj_wp (f_X8_findMakingUp m) fun q => oj_sm SX m q.2 ∧ CN P (k + 1) b q.2 ∧ ∃ r, MF (mu_f P w g k ρ) k r ∧ match r with
      | none => q.1 = 0
      | some z => q.1 = 1 ∧ q.2.1 7 8 = nI z.1 ∧ q.2.1 15 3 = nI z.2 := by
  unfold f_X8_findMakingUp f_X8_findMakingUp_L10
  rw [h5]
  refine wp_loop (fun v (s : Int32 × ej_M) => s.1 = nI v ∧ 1 ≤ v ∧ oj_sm SX m s.2 ∧ CN P (k + 1) b s.2 ∧ ∀ v', 1 ≤ v' → v' < v → ∀ p, p ≤ k → mu_f P w g k ρ v' p = false) 100 (by decide) (fun v s hv hI => ?_) (fun s hI => ?_) (i0 := 1) (by decide) ⟨rfl, Nat.le_refl _, sm_refl, hC, fun v' h1 h2 => by omega⟩
  · obtain ⟨a, m'⟩ := s
    obtain ⟨rfl, hv1, i1, i2, i4⟩ := hI
    simp only at i1 i2 i4 ⊢
    unfold f_X8_findMakingUp_L10b
    rw [if_neg (show ¬ 99 < nI v from fun q => by have := (nI_ltI (a := 99) (by decide) (by omega)).mp q; omega), x_weigh8, o_bs]
    simp only
    have hs : oj_sm (fun a j => a = 7 ∧ j = 8) m' (oj_row m' 7 (upd (m'.1 7) 8 (nI v))) := sm_upd ⟨rfl, rfl⟩
    have hsX : oj_sm SX m' (oj_row m' 7 (upd (m'.1 7) 8 (nI v))) := sm_mono hs fun a j q => by unfold SX; omega
    have hs1 := sm_trans i1 hsX
    refine wp_mono (x_muIn (ρ := ρ) hk8 hb (XK_go hs1 hK) ((hs1.2 6 4 (by unfold SX; omega)).trans h5) (fun q hq => ⟨(hs1.2 8 q (by unfold SX; omega)).trans (h8 q hq).1, (h8 q hq).2⟩) (CN_fr hs i2 (fun i => by omega) (by omega) (by omega) (fun i hi => by omega)) (by rw [oj_row_s]; unfold upd; rw [if_pos rfl]) (by omega)) fun x hx => ?_
    rcases x with s | e
    · obtain ⟨x1, x2, x3, x4⟩ := hx
      refine ⟨x1, by omega, sm_trans hs1 x2, x3, fun v' h1 h2 p hp => ?_⟩
      by_cases e : v' = v
      · rw [e]; exact x4 p hp
      · exact i4 v' h1 (by omega) p hp
    · obtain ⟨x1, x2, x3, x4, p, p1, p2, p3, p4⟩ := hx
      exact ⟨sm_trans hs1 x2, x3, some (v, p), ⟨hv1, by simp only; omega, p1, p3, p4, i4⟩, x1, x4, p2⟩
  · obtain ⟨a, m'⟩ := s
    obtain ⟨rfl, hv1, i1, i2, i4⟩ := hI
    simp only at i1 i2 i4 ⊢
    unfold f_X8_findMakingUp_L10b
    rw [if_pos (show (99 : Int32) < nI 100 by decide)]
    exact wp_inr ⟨i1, i2, none, fun v h1 h2 => i4 v h1 (by omega), rfl⟩
theorem m_made {P : Option (List (List Int32 × List Int32))} {w : Nat → Int32} {g : Int32} {k v p N : Nat} {ρ : Nat → Nat} {m : ej_M} (hN : N ≤ 8) (hk8 : k ≤ 8) (hp : p ≤ k) (hK : MK P w g N m) (h4 : m.1 41 4 = nI k) (h8 : ∀ q, q < k → m.1 43 q = nI (ρ q) ∧ ρ q < N) :
    oj_wp (f_X11_isMadeUp (nI v) (nI p) m) fun q => q.1 = (if mu_f P w g k ρ v p then 1 else 0) ∧ oj_sm SM m q.2 := by
  unfold f_X11_isMadeUp
  rw [show oj_st 0 m 42 8 (nI v) = some (oj_row m 42 (upd (m.1 42) 8 (nI v))) from oj_ar_st (k := 8) ar_42 (by decide) m (nI v), o_bs]
  unfold oj_pf
  rw [o_bs, oj_row_n (by decide), h4, nI_1]
  have hs : oj_sm SM m (ej_w (oj_row m 42 (upd (m.1 42) 8 (nI v))) 41 29 (nI (k + 1))) := sm_trans (sm_upd (by unfold SM; omega)) (sm_w (by unfold SM; omega))
  have e29 : (ej_w (oj_row m 42 (upd (m.1 42) 8 (nI v))) 41 29 (nI (k + 1))).1 41 29 = nI (k + 1) := w_same
  have e428 : (ej_w (oj_row m 42 (upd (m.1 42) 8 (nI v))) 41 29 (nI (k + 1))).1 42 8 = nI v := by rw [w_place (by decide), oj_row_s]; unfold upd; rw [if_pos rfl]
  generalize ej_w (oj_row m 42 (upd (m.1 42) 8 (nI v))) 41 29 (nI (k + 1)) = m1 at hs e29 e428 ⊢
  unfold f_X11_isMadeUp_L20
  refine wp_loop (fun i (s : Int32 × ej_M) => s.1 = nI i ∧ oj_sm (fun a _ => a = 56) m1 s.2 ∧ ∀ q, q < i → s.2.1 56 q = nI (r_in p 8 ρ q)) (k + 1) (by unfold oj_FU; omega) (fun i s hi hI => ?_) (fun s hI => ?_) (i0 := 0) (by omega) ⟨rfl, sm_refl, fun q hq => absurd hq (Nat.not_lt_zero _)⟩
  · obtain ⟨a, m'⟩ := s
    obtain ⟨rfl, i1, i2⟩ := hI
    simp only at i1 i2 ⊢
    have e43 : ∀ q, q < k → m'.1 43 q = nI (ρ q) := fun q hq => by rw [i1.2 43 q (by omega), hs.2 43 q (by unfold SM; omega)]; exact (h8 q hq).1
    unfold f_X11_isMadeUp_L20b
    rw [i1.2 41 29 (by omega), e29, if_neg (fun q => by have := (nI_leI (by omega) (by omega)).mp q; omega)]
    have hgo : ∀ u : Int32, u = nI (r_in p 8 ρ i) → oj_wp (f_X11_isMadeUp_B65 (nI p) (nI i) u (nI i) m') (oj_k (fun s => s.1 = nI (i + 1) ∧ oj_sm (fun a _ => a = 56) m1 s.2 ∧ ∀ q, q < i + 1 → s.2.1 56 q = nI (r_in p 8 ρ q)) fun q => q.1 = (if mu_f P w g k ρ v p then 1 else 0) ∧ oj_sm SM m q.2) := fun u hu => by
      unfold f_X11_isMadeUp_B65
      rw [oj_ar_st ar_56 (by omega), o_bs, nI_1]
      refine wp_inl ⟨rfl, sm_trans i1 (sm_upd rfl), fun q hq => ?_⟩
      simp only
      rw [oj_row_s]
      unfold upd
      by_cases e : q = i
      · rw [if_pos e, e]; exact hu
      · rw [if_neg e]; exact i2 q (by omega)
    by_cases e : p ≤ i
    · rw [if_pos ((nI_leI (by omega) (by omega)).mpr e)]
      by_cases e2 : i = p
      · rw [if_pos (by rw [e2])]
        exact hgo 8 (by unfold r_in; rw [if_pos e2]; rfl)
      · rw [if_neg (fun q => e2 (nI_inj (by omega) (by omega) q)), nI_m1 (by omega), oj_ar_ld ar_43 (by omega), o_bs, e43 (i - 1) (by omega)]
        exact hgo _ (by unfold r_in; rw [if_neg e2, if_pos (by omega)])
    · rw [if_neg (fun q => e ((nI_leI (by omega) (by omega)).mp q)), oj_ar_ld ar_43 (by omega), o_bs, e43 i (by omega)]
      exact hgo _ (by unfold r_in; rw [if_neg (by omega), if_neg (by omega)])
  · obtain ⟨a, m'⟩ := s
    obtain ⟨rfl, i1, i2⟩ := hI
    simp only at i1 i2 ⊢
    unfold f_X11_isMadeUp_L20b
    rw [i1.2 41 29 (by omega), e29, if_pos (Int32.le_refl _)]
    have hs2 : oj_sm SM m m' := sm_trans hs (sm_mono i1 fun a j q => by unfold SM; omega)
    have hK2 := MK_go hN hs2 hK
    have hlt : ∀ q, q < k → ρ q < N := fun q hq => (h8 q hq).2
    have hMR : MR P (k + 1) (r_in p 8 ρ) m' := ⟨hK2.1, by omega, (i1.2 41 29 (by omega)).trans e29, fun q hq => ⟨i2 q hq, in_lt hN hp hlt hq⟩⟩
    refine wp_bind (wp_mono (m_all hMR) fun q hq => ?_)
    have hf : lwA (lw P (m'.1 42) (m'.1 41 5) (r_in p 8 ρ) (k + 1)) (k + 1) = mu_f P w g k ρ v p := by
      unfold mu_f LWf
      rw [hK2.2.1]
      refine lwA_congr fun r hr => lw_congr hr fun q hq => ⟨rfl, ?_⟩
      unfold w8 r_in
      by_cases e1 : q = p
      · rw [if_pos e1, if_pos rfl, i1.2 42 8 (by omega)]; exact e428
      · rw [if_neg e1]
        by_cases e2 : p < q
        · rw [if_pos e2, if_neg (by have := hlt (q - 1) (by omega); omega)]; exact hK2.2.2 _ (hlt _ (by omega))
        · rw [if_neg e2, if_neg (by have := hlt q (by omega); omega)]; exact hK2.2.2 _ (hlt _ (by omega))
    rw [hf] at hq
    rw [hq.1]
    by_cases hl : mu_f P w g k ρ v p = true
    · rw [if_pos hl, rz_1]; exact wp_inr ⟨rfl, sm_trans hs2 (sm_MC hq.2)⟩
    · rw [if_neg hl, rz_0]; exact wp_inr ⟨rfl, sm_trans hs2 (sm_MC hq.2)⟩
theorem m_mu {P : Option (List (List Int32 × List Int32))} {w : Nat → Int32} {g : Int32} {k N : Nat} {ρ : Nat → Nat} {t : Int32} {m : ej_M} (hN : N ≤ 8) (hk8 : k ≤ 8) (hK : MK P w g N m) (h4 : m.1 41 4 = nI k) (h8 : ∀ q, q < k → m.1 43 q = nI (ρ q) ∧ ρ q < N) :
    oj_wp (f_X11_makeUp_L13 t 1 m) fun q => oj_sm SM m q.2 ∧ ∃ r, MF (mu_f P w g k ρ) k r ∧ match r with
      | none => q.1 = -2
      | some z => q.1 = if t = 0 then nI z.1 else nI z.2 := by
  unfold f_X11_makeUp_L13
  refine wp_loop (fun v (s : Int32 × ej_M) => s.1 = nI v ∧ 1 ≤ v ∧ oj_sm SM m s.2 ∧ ∀ v', 1 ≤ v' → v' < v → ∀ p, p ≤ k → mu_f P w g k ρ v' p = false) 100 (by decide) (fun v s hv hI => ?_) (fun s hI => ?_) (i0 := 1) (by decide) ⟨rfl, Nat.le_refl _, sm_refl, fun v' h1 h2 => by omega⟩
  · obtain ⟨a, m'⟩ := s
    obtain ⟨rfl, hv1, i1, i4⟩ := hI
    simp only at i1 i4 ⊢
    unfold f_X11_makeUp_L13b
    rw [if_neg (show ¬ 99 < nI v from fun q => by have := (nI_ltI (a := 99) (by decide) (by omega)).mp q; omega)]
    unfold f_X11_makeUp_L21
    refine wp_loop (fun p (s : Int32 × ej_M) => s.1 = nI p ∧ oj_sm SM m s.2 ∧ ∀ p', p' < p → mu_f P w g k ρ v p' = false) (k + 1) (by unfold oj_FU; omega) (fun p s hp hI => ?_) (fun s hI => ?_) (i0 := 0) (by omega) ⟨rfl, i1, fun p' h => absurd h (Nat.not_lt_zero _)⟩
    · obtain ⟨a, m2⟩ := s
      obtain ⟨rfl, j1, j4⟩ := hI
      simp only at j1 j4 ⊢
      have e4 : m2.1 41 4 = nI k := (j1.2 41 4 (by unfold SM; omega)).trans h4
      unfold f_X11_makeUp_L21b
      rw [e4, if_neg (fun q => by have := (nI_ltI (by omega) (by omega)).mp q; omega)]
      refine wp_bind (wp_mono (m_made (ρ := ρ) (v := v) hN hk8 (show p ≤ k by omega) (MK_go hN j1 hK) e4 (fun q hq => ⟨(j1.2 43 q (by unfold SM; omega)).trans (h8 q hq).1, (h8 q hq).2⟩)) fun q hq => ?_)
      obtain ⟨q1, q2⟩ := hq
      have hs := sm_trans j1 q2
      by_cases hl : mu_f P w g k ρ v p = true
      · rw [q1, if_pos hl, if_neg i10]
        by_cases ht : t = 0
        · rw [if_pos ht]
          exact wp_inr ⟨hs, some (v, p), ⟨hv1, by simp only; omega, by simp only; omega, hl, j4, i4⟩, by simp only; rw [if_pos ht]⟩
        · rw [if_neg ht]
          exact wp_inr ⟨hs, some (v, p), ⟨hv1, by simp only; omega, by simp only; omega, hl, j4, i4⟩, by simp only; rw [if_neg ht]⟩
      · rw [q1, if_neg hl, if_pos rfl, nI_1]
        refine wp_inl ⟨rfl, hs, fun p' hp' => ?_⟩
        by_cases e : p' = p
        · rw [e]; simpa using hl
        · exact j4 p' (by omega)
    · obtain ⟨a, m2⟩ := s
      obtain ⟨rfl, j1, j4⟩ := hI
      simp only at j1 j4 ⊢
      unfold f_X11_makeUp_L21b
      rw [j1.2 41 4 (by unfold SM; omega), h4, if_pos ((nI_ltI (by omega) (by omega)).mpr (by omega)), nI_1]
      refine wp_inr ⟨rfl, by omega, j1, fun v' h1 h2 p hp => ?_⟩
      by_cases e : v' = v
      · rw [e]; exact j4 p (by omega)
      · exact i4 v' h1 (by omega) p hp
  · obtain ⟨a, m'⟩ := s
    obtain ⟨rfl, hv1, i1, i4⟩ := hI
    simp only at i1 i4 ⊢
    unfold f_X11_makeUp_L13b
    rw [if_pos (show (99 : Int32) < nI 100 by decide)]
    exact wp_inr ⟨i1, none, fun v h1 h2 => i4 v h1 (by omega), rfl⟩
theorem op_makeUpT {t : Int32} (ht : t = 0 ∨ t = 1) : OP (f_X10_makeUp t) (f_X11_makeUp t) := by
  refine OP_ask fun L xs n k ρ P nb b m hI hC hb => ?_
  obtain ⟨h1, h2, h3, h4, h5, h6, h7, h8, h9, h10, h11, h12, h13, h14, h15⟩ := id hI.1
  have hk8 : k ≤ 8 := by omega
  have hB : f_X10_makeUp t m = (f_X8_findMakingUp m).bind fun q1 => if q1.1 = 0 then some ((-2), q1.2) else if t = 0 then (f_X4_weightOf 8 q1.2).bind fun q2 => some (q2.1, q2.2) else some ((q1.2.1 15 3), q1.2) := by
    unfold f_X10_makeUp f_X10_makeUp_B11
    rcases ht with rfl | rfl
    · rw [if_pos rfl]
    · rw [if_neg i10, if_pos rfl]
  rw [hB]
  refine wp_bind (wp_mono (x_mu (ρ := ρ) (b := b + 1) hk8 (by unfold oST at hb; omega) (IV_XK hI) h5 (fun q hq => ⟨(h8 q hq).1, by have := (h8 q hq).2.2; omega⟩) (CB_N hC _)) fun q hq => ?_)
  obtain ⟨q1, q2, r, q3, q4⟩ := hq
  have hgo : ∀ u : Int32, (match r with | none => u = -2 | some z => u = if t = 0 then nI z.1 else nI z.2) → ∀ m', IV L xs n k ρ P nb m' → oj_sm SX m m' → oj_wp (f_X11_makeUp t m') fun w => u = w.1 ∧ oj_sm SM m' w.2 := fun u hu m' hI' hs => by
    obtain ⟨g1, g2, g3, g4, g5, g6, g7, g8, g9, g10, g11, g12, g13, g14, g15⟩ := id hI'.1
    unfold f_X11_makeUp
    rw [p_in1 (show (0 : Int32) ≤ t from by rcases ht with rfl | rfl <;> decide) (show t ≤ 1 from by rcases ht with rfl | rfl <;> decide), o_bs, if_neg i10]
    refine wp_mono (m_mu (ρ := ρ) (t := t) h1 hk8 (IV_MK hI' hs) g6 (fun q hq => ⟨(g8 q hq).2.1, (g8 q hq).2.2⟩)) fun w hw => ?_
    obtain ⟨w1, r', w2, w3⟩ := hw
    have := MF_eq q3 w2
    subst this
    refine ⟨?_, w1⟩
    cases r with
    | none => exact hu.trans w3.symm
    | some z => exact hu.trans w3.symm
  cases r with
  | none =>
    rw [show q.1 = 0 from q4, if_pos rfl]
    exact wp_some ⟨q1, CN_step q2, hgo (-2) rfl⟩
  | some z =>
    obtain ⟨e1, e2, e3⟩ := q4
    rw [e1, if_neg i10]
    by_cases h0 : t = 0
    · rw [if_pos h0]
      rw [show f_X4_weightOf 8 q.2 = some (q.2.1 7 8, q.2) from x_weightN (c := 8) (by decide), o_bs]
      exact wp_some ⟨q1, CN_step q2, hgo _ (by simp only; rw [if_pos h0]; exact e2)⟩
    · rw [if_neg h0]
      exact wp_some ⟨q1, CN_step q2, hgo _ (by simp only; rw [if_neg h0]; exact e3)⟩
theorem op_makeUp (v : Int32) : OP (f_X10_makeUp v) (f_X11_makeUp v) := by
  by_cases h0 : v = 0
  · exact op_makeUpT (Or.inl h0)
  by_cases h1 : v = 1
  · exact op_makeUpT (Or.inr h1)
  refine OP_no (v := -1) (fun m => ?_) (fun m => ?_)
  · unfold f_X10_makeUp
    rw [if_neg h0, if_neg h1]
  · unfold f_X11_makeUp
    rw [p_in0, o_bs, if_pos rfl]
    rintro ⟨a, c⟩
    obtain ⟨j, hj, rfl⟩ := nI_of (Int32.not_lt.mpr a)
    have := (nI_leI (b := 1) hj (by decide)).mp c
    rcases (by omega : j = 0 ∨ j = 1) with rfl | rfl
    · exact h0 rfl
    · exact h1 rfl
