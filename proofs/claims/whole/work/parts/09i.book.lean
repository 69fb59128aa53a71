/-! book, stones -/
theorem x_setOfRow {m : ej_M} {k : Nat} {ρ : Nat → Nat} (h4 : m.1 6 4 = nI k) (hk : k ≤ 8) (hρ : ∀ q, q < k → m.1 8 q = nI (ρ q) ∧ ρ q < 8) (hj : ∀ p q, p < k → q < k → ρ p = ρ q → p = q) : ∃ U, f_X4_setOfRow m = some (nI U, m) ∧ U < 256 ∧ ∀ s, s < 8 → (sb U s = true ↔ ∃ p, p < k ∧ ρ p = s) := by
  have : oj_wp (f_X4_setOfRow m) fun q => q.2 = m ∧ ∃ U, q.1 = nI U ∧ U < 256 ∧ ∀ s, s < 8 → (sb U s = true ↔ ∃ p, p < k ∧ ρ p = s) := by
    unfold f_X4_setOfRow f_X4_setOfRow_L4
    refine wp_loop (fun i (x : Int32 × Int32 × ej_M) => x.2 = (nI i, m) ∧ ∃ U, x.1 = nI U ∧ U < 256 ∧ ∀ s, s < 8 → (sb U s = true ↔ ∃ p, p < i ∧ ρ p = s)) k (by unfold oj_FU; omega) (fun i x hi hI => ?_) (fun x hI => ?_) (i0 := 0) (by omega) ⟨rfl, 0, rfl, by decide, fun s hs => ⟨fun h => absurd h (by rw [sb_hi (i := s) (Nat.pow_pos (by decide))]; decide), fun ⟨p, hp, _⟩ => absurd hp (Nat.not_lt_zero _)⟩⟩
    · obtain ⟨a, a'⟩ := x
      obtain ⟨rfl, U, rfl, h1, h2⟩ := hI
      simp only
      unfold f_X4_setOfRow_L4b
      rw [h4, if_neg (fun q => by have := (nI_leI (by omega) (by omega)).mp q; omega), p_at1 ar_8 (by omega), o_bs, (hρ i hi).1, nI_1]
      have hn : ¬ sb U (ρ i) = true := fun q => by
        obtain ⟨p, hp, e⟩ := (h2 _ (hρ i hi).2).mp q
        have := hj p i (by omega) hi e
        omega
      obtain ⟨d1, d2⟩ := or_dec U h1 (ρ i) (hρ i hi).2 hn
      refine wp_inl ⟨rfl, U + 2 ^ ρ i, d1, d2, fun s hs => ?_⟩
      rw [sb_add U h1 _ (hρ i hi).2 hn s hs]
      constructor
      · intro h
        by_cases e : s = ρ i
        · exact ⟨i, by omega, e.symm⟩
        · rw [decide_eq_false e, Bool.or_false] at h
          obtain ⟨p, hp, e2⟩ := (h2 s hs).mp h
          exact ⟨p, by omega, e2⟩
      · rintro ⟨p, hp, e⟩
        by_cases e2 : p = i
        · rw [decide_eq_true (by rw [← e, e2]), Bool.or_true]
        · rw [(h2 s hs).mpr ⟨p, by omega, e⟩, Bool.true_or]
    · obtain ⟨a, a'⟩ := x
      obtain ⟨rfl, U, rfl, h1, h2⟩ := hI
      simp only
      unfold f_X4_setOfRow_L4b
      rw [h4, if_pos (Int32.le_refl _)]
      exact wp_inr ⟨rfl, U, rfl, h1, h2⟩
  obtain ⟨⟨v, m'⟩, e1, e2, U, e3, e4, e5⟩ := this
  simp only at e2 e3
  exact ⟨U, by rw [e1, e2, e3], e4, e5⟩
theorem sb_ext : ∀ U, U < 256 → ∀ s, s < 8 → U / 2 ^ s % 2 = if sb U s = true then 1 else 0 := by decide +kernel
theorem sb_inj {U U' : Nat} (h : U < 256) (h' : U' < 256) (e : ∀ s, s < 8 → (sb U s = true ↔ sb U' s = true)) : U = U' := by
  have key : ∀ s, s < 8 → U / 2 ^ s % 2 = U' / 2 ^ s % 2 := fun s hs => by
    rw [sb_ext U h s hs, sb_ext U' h' s hs]
    by_cases q : sb U s = true
    · rw [if_pos q, if_pos ((e s hs).mp q)]
    · rw [if_neg q, if_neg (fun z => q ((e s hs).mpr z))]
  have k0 := key 0 (by decide)
  have k1 := key 1 (by decide)
  have k2 := key 2 (by decide)
  have k3 := key 3 (by decide)
  have k4 := key 4 (by decide)
  have k5 := key 5 (by decide)
  have k6 := key 6 (by decide)
  have k7 := key 7 (by decide)
  simp only [Nat.reducePow] at k0 k1 k2 k3 k4 k5 k6 k7
  omega
theorem U_lt {U k n : Nat} {ρ : Nat → Nat} (hn : n ≤ 8) (hU : U < 256) (hρ : ∀ q, q < k → ρ q < n) (hUs : ∀ s, s < 8 → (sb U s = true ↔ ∃ p, p < k ∧ ρ p = s)) : U < 2 ^ n := by
  have h : ∀ s, s < 8 → n ≤ s → U / 2 ^ s % 2 = 0 := fun s hs hns => by
    rw [sb_ext U hU s hs, if_neg]
    intro q
    obtain ⟨p, hp, e⟩ := (hUs s hs).mp q
    have := hρ p hp
    omega
  have k0 := h 0 (by decide)
  have k1 := h 1 (by decide)
  have k2 := h 2 (by decide)
  have k3 := h 3 (by decide)
  have k4 := h 4 (by decide)
  have k5 := h 5 (by decide)
  have k6 := h 6 (by decide)
  have k7 := h 7 (by decide)
  simp only [Nat.reducePow] at k0 k1 k2 k3 k4 k5 k6 k7
  rcases (by omega : n = 0 ∨ n = 1 ∨ n = 2 ∨ n = 3 ∨ n = 4 ∨ n = 5 ∨ n = 6 ∨ n = 7 ∨ n = 8) with rfl | rfl | rfl | rfl | rfl | rfl | rfl | rfl | rfl <;> simp only [Nat.reducePow] <;> omega
/-- the row's stones: as many as places -/
theorem bc_row {k n : Nat} {ρ : Nat → Nat} (hn : n ≤ 8) : ∀ k, (∀ q, q < k → ρ q < 8) → (∀ p q, p < k → q < k → ρ p = ρ q → p = q) → ∀ U, U < 256 → (∀ s, s < 8 → (sb U s = true ↔ ∃ p, p < k ∧ ρ p = s)) → bc U = k := by
  intro k
  induction k with
  | zero =>
    intro _ _ U hU h
    have : U = 0 := sb_inj hU (by decide) fun s hs => by
      rw [h s hs]
      exact ⟨fun ⟨p, hp, _⟩ => absurd hp (Nat.not_lt_zero _), fun q => absurd q (by rw [sb_hi (i := s) (Nat.pow_pos (by decide))]; decide)⟩
    rw [this]; rfl
  | succ k ih =>
    intro hρ hj U hU h
    have hs : sb U (ρ k) = true := (h _ (hρ k (by omega))).mpr ⟨k, by omega, rfl⟩
    have h1 := bc_sub U hU _ (hρ k (by omega)) hs
    have h2 := (and_dec U hU _ (hρ k (by omega)) hs).2
    have := ih (fun q hq => hρ q (by omega)) (fun p q hp hq => hj p q (by omega) (by omega)) (U - 2 ^ ρ k) (by omega) fun s hs' => by
      rw [sb_sub U hU _ (hρ k (by omega)) hs s hs']
      constructor
      · intro q
        have q1 : sb U s = true := by
          cases z : sb U s with
          | true => rfl
          | false => rw [z, Bool.false_and] at q; cases q
        rw [q1, Bool.true_and] at q
        have q2 := of_decide_eq_true q
        obtain ⟨p, hp, e⟩ := (h s hs').mp q1
        have : p ≠ k := fun z => q2 (by rw [← e, z])
        exact ⟨p, by omega, e⟩
      · rintro ⟨p, hp, e⟩
        rw [(h s hs').mpr ⟨p, by omega, e⟩, Bool.true_and]
        refine decide_eq_true fun z => ?_
        have := hj p k (by omega) (by omega) (e.trans z)
        omega
    omega
-- a shelf with a row of bytes
theorem sh_by {nb : Nat} {m : ej_M} (hF : IF nb m) (hnb : nb ≤ 50) (v1 : Int32) :
    (∃ c : Int32, c < 0 ∧ (c = -1 ∨ c = -11 ∨ c = -12) ∧ f_X6_refusesBytes v1 m = some (c, m) ∧ ((c = -1 ∧ ∀ i, i < 6 → v1 ≠ nI i) ∨ ∃ s, s < 6 ∧ v1 = nI s ∧ c ≠ -1 ∧ ∀ m' : ej_M, m'.1 66 = m.1 66 → f_X11_rowFault v1 m' = some (c, m'))) ∨
    ∃ s l, s < 6 ∧ l ≤ 60 ∧ v1 = nI s ∧ m.1 38 s = 0 ∧ m.1 66 s = -2 ∧ m.1 39 s = nI l ∧ m.1 67 s = nI l
      ∧ (∀ i, i < 60 → m.2 68 (60 * s + i) = m.2 40 (60 * s + i) ∧ Int32.toInt64 (Int64.toInt32 (m.2 40 (60 * s + i))) = m.2 40 (60 * s + i))
      ∧ f_X6_refusesBytes v1 m = some (0, m) ∧ ∀ m' : ej_M, m'.1 66 = m.1 66 → f_X11_rowFault v1 m' = some (0, m') := by
  rcases r_cases v1 6 with ⟨s, hs, rfl⟩ | hN
  · have hX : f_X6_refusesBytes (nI s) m = if x_rr (m.1 38 s) = 0 then (if m.1 38 s = 0 then some (0, m) else some (-12, m)) else some (x_rr (m.1 38 s), m) := by
      unfold f_X6_refusesBytes
      rw [x_refRow hs, o_bs]
      simp only
      rw [x_at38 hs, o_bs]
    have hM : ∀ m' : ej_M, m'.1 66 = m.1 66 → f_X11_rowFault (nI s) m' = if m.1 66 s = -1 then some (-11, m') else if m.1 66 s = -2 then some (0, m') else some (-12, m') := fun m' e => by
      unfold f_X11_rowFault
      rw [oj_ar_ld ar_66 hs, o_bs, o_bs, e]
    rcases hF s hs with ⟨a1, a2⟩ | ⟨b, a1, a2, a3, a4⟩ | ⟨t, l, a1, a2, a3, a4, a5, a6, a7⟩
    · refine Or.inl ⟨-11, by decide, Or.inr (Or.inl rfl), ?_, Or.inr ⟨s, hs, rfl, by decide, fun m' e => ?_⟩⟩
      · rw [hX, a1]; rfl
      · rw [hM m' e, if_pos a2]
    · refine Or.inl ⟨-12, by decide, Or.inr (Or.inr rfl), ?_, Or.inr ⟨s, hs, rfl, by decide, fun m' e => ?_⟩⟩
      · rw [hX, a2]; rfl
      · rw [hM m' e, a4, if_neg (nI_neq1 (by omega)), if_neg (nI_neq2 (by omega))]
    · obtain ⟨b1, b2, b3⟩ := m_srt t a1
      rw [a3, x_rr_row a1, if_pos rfl] at hX
      by_cases e : t = 0
      · subst e
        refine Or.inr ⟨s, l, hs, a2, rfl, a3, a4, a5, a6, fun i hi => ⟨(a7 i hi).1, (a7 i hi).2 rfl⟩, ?_, fun m' e => ?_⟩
        · rw [hX, if_pos (show nI 0 = 0 from rfl)]
        · rw [hM m' e, a4, if_neg (by decide), if_pos (by decide)]
      · refine Or.inl ⟨-12, by decide, Or.inr (Or.inr rfl), ?_, Or.inr ⟨s, hs, rfl, by decide, fun m' e2 => ?_⟩⟩
        · rw [hX, if_neg (fun q => e ((nI_eq0 (by omega)).mp q))]
        · rw [hM m' e2, a4, if_neg b2, if_neg (fun q => e ((m_srt_inj t a1 0 (by decide)).mp (by rw [q]; decide)))]
  · refine Or.inl ⟨-1, by decide, Or.inl rfl, ?_, Or.inl ⟨rfl, hN⟩⟩
    unfold f_X6_refusesBytes f_X6_refusesRow
    rw [x_shelfN hN, o_bs, if_pos rfl, o_bs, if_neg (show ¬ (-1 : Int32) = 0 by decide)]
theorem x_fitBook {s l : Nat} {m : ej_M} (hs : s < 6) (hl : l ≤ 60) (h38 : m.1 38 s = 0) (h39 : m.1 39 s = nI l) : oj_wp (f_X3_fitBook (nI s) m) fun q => oj_sm (fun a _ => a = 19) m q.2 ∧ ∀ p, p < 8 → q.2.1 19 p = if p < l then Int64.toInt32 (m.2 40 (60 * s + p)) else -1 := by
  unfold f_X3_fitBook
  refine wp_bind (wp_mono x_fitAll fun q hq => ?_)
  obtain ⟨q1, q2⟩ := hq
  unfold f_X3_fitBook_L6
  refine wp_loop (fun i (z : Int32 × ej_M) => z.1 = nI i ∧ oj_sm (fun a _ => a = 19) m z.2 ∧ (∀ p, p < 8 → z.2.1 19 p = if p < i ∧ p < l then Int64.toInt32 (m.2 40 (60 * s + p)) else -1)) 8 (by decide) (fun i z hi hI => ?_) (fun z hI => ?_) (i0 := 0) (by decide) ⟨rfl, q1, fun p hp => by rw [if_neg (by omega)]; exact q2 p hp⟩
  · obtain ⟨a, m1⟩ := z
    obtain ⟨rfl, i1, i2⟩ := hI
    simp only at i1 i2 ⊢
    unfold f_X3_fitBook_L6b
    rw [if_neg (show ¬ (8 : Int32) ≤ nI i from fun q => by have := (nI_leI (a := 8) (by decide) (by omega)).mp q; omega), x_length hs, o_bs, i1.2 38 s (by omega), h38, if_neg (show ¬ (0 : Int32) < 0 by decide), i1.2 39 s (by omega), h39]
    simp only
    by_cases e : l ≤ i
    · rw [if_pos ((nI_leI (by omega) (by omega)).mpr e)]
      refine wp_inr ⟨i1, fun p hp => ?_⟩
      rw [i2 p hp]
      by_cases e2 : p < l
      · rw [if_pos ⟨by omega, e2⟩, if_pos e2]
      · rw [if_neg (fun z => e2 z.2), if_neg e2]
    · rw [if_neg (fun q => e ((nI_leI (by omega) (by omega)).mp q)), x_valueAt hs (by omega), o_bs]
      simp only
      rw [p_lay1 ar_19 (by omega), o_bs, nI_1, i1.1]
      refine wp_inl ⟨rfl, sm_trans i1 (sm_a fun j => rfl), fun p hp => ?_⟩
      simp only
      rw [oj_row_s]
      unfold upd
      by_cases e2 : p = i
      · rw [if_pos e2, e2, if_pos ⟨by omega, by omega⟩]
      · rw [if_neg e2, i2 p hp]
        by_cases e3 : p < i ∧ p < l
        · rw [if_pos e3, if_pos ⟨by omega, e3.2⟩]
        · rw [if_neg e3, if_neg (by omega)]
  · obtain ⟨a, m1⟩ := z
    obtain ⟨rfl, i1, i2⟩ := hI
    simp only at i1 i2 ⊢
    unfold f_X3_fitBook_L6b
    rw [if_pos (show (8 : Int32) ≤ nI 8 from Int32.le_refl _)]
    refine wp_inr ⟨i1, fun p hp => ?_⟩
    rw [i2 p hp]
    by_cases e2 : p < l
    · rw [if_pos ⟨hp, e2⟩, if_pos e2]
    · rw [if_neg (fun z => e2 z.2), if_neg e2]
theorem lg_0 (x y : Int64) : lg_cmp x y = 0 ↔ x = y := by
  unfold lg_cmp
  by_cases h : x > y
  · rw [if_pos h]
    refine ⟨fun q => absurd q (by decide), fun q => ?_⟩
    rw [q] at h
    exact absurd h (Int64.lt_irrefl)
  · rw [if_neg h]
    by_cases e : x = y
    · rw [if_pos e]; exact ⟨fun _ => e, fun _ => rfl⟩
    · rw [if_neg e]; exact ⟨fun q => absurd q (by decide), fun q => absurd q e⟩
def bkF (m : ej_M) (s l p t : Nat) : Bool := decide (¬ p < l ∨ Int64.toInt32 (m.2 40 (60 * s + p)) = -1 ∨ Int64.toInt32 (m.2 40 (60 * s + p)) = nI t)
theorem op_book (v1 v2 : Int32) : OP (f_X10_book v1 v2) (f_X11_book v1 v2) := by
  refine OP_ask fun L xs n k ρ P nb b m hI hC hb => ?_
  obtain ⟨h1, h2, h3, h4, h5, h6, h7, h8, h9, h10, h11, h12, h13, h14, h15⟩ := id hI.1
  have h256 := pw_8 h1
  have hk8 : k ≤ 8 := by omega
  have hF := hI.2.2.2.2.2.1
  have hnb := hI.2.2.2.2.1.1
  have hno : ∀ c : Int32, f_X10_book v1 v2 m = some (c, m) → (∀ m', IV L xs n k ρ P nb m' → oj_sm SX m m' → f_X11_book v1 v2 m' = some (c, m')) → oj_wp (f_X10_book v1 v2 m) fun q => oj_sm SX m q.2 ∧ CB P (b + oST) q.2 ∧ ∀ m', IV L xs n k ρ P nb m' → oj_sm SX m m' → oj_wp (f_X11_book v1 v2 m') fun r => q.1 = r.1 ∧ oj_sm SM m' r.2 := fun c e1 e2 => by
    rw [e1]
    refine wp_some ⟨sm_refl, CB_step hC, fun m' hI' hs => ?_⟩
    rw [e2 m' hI' hs]
    exact wp_some ⟨rfl, sm_refl⟩
  rcases t_cases v2 k (by omega) with ⟨t, rfl, ht⟩ | hbad
  · obtain ⟨t1, t2, t3, t4⟩ := oT_lo t k (by omega) ht
    have hX : f_X10_book v1 (oT t) m = (f_X6_refusesBytes v1 m).bind fun q1 => if q1.1 = 0 then (f_X3_fitBook v1 q1.2).bind fun q2 => (f_X4_setOfRow q2.2).bind fun q3 => (f_X3_answer q3.1 (oT t) q3.2).bind fun q4 => some (q4.1, q4.2) else some (q1.1, q1.2) := by
      unfold f_X10_book
      rw [if_neg t1, h5, if_pos t2]
    have hMs : ∀ s, s < 6 → v1 = nI s → ∀ m', m'.1 41 4 = nI k → f_X11_book v1 (oT t) m' = (f_X11_rowFault v1 m').bind fun q3 => if 0 ≤ q3.1 then (f_X11_standing q3.2).bind fun q4 => (f_X11_orders q4.1 v1 q4.2).bind fun q5 => if 0 ≤ oT t then if q5.1 = 0 then some ((-2), q5.2) else (oj_ld 0 q5.2 57 (oT t)).bind fun w6 => some (w6, q5.2) else some (q5.1, q5.2) else (f_X11_rowFault v1 q3.2).bind fun q7 => some (q7.1, q7.2) := fun s hs e m' g => by
      unfold f_X11_book
      rw [e, m_shelfY hs, o_bs, if_neg i10]
      simp only
      rw [g, p_in1 t3 t4, o_bs, if_neg i10]
    rcases sh_by hF hnb v1 with ⟨c, c1, c2, c3, c4⟩ | ⟨s, l, hs, hl, rfl, a38, a66, a39, a67, a7, c3, c4⟩
    · refine hno c ?_ fun m' hI' hsm => ?_
      · rw [hX, c3, o_bs, if_neg (neg_ne0 c1)]
      · rcases c4 with ⟨rfl, hN⟩ | ⟨s, hs, e, _, hrf⟩
        · unfold f_X11_book
          rw [m_shelfN hN, o_bs, if_pos rfl]
        · have e66 : m'.1 66 = m.1 66 := funext fun j => hsm.2 66 j (by unfold SX; omega)
          rw [hMs s hs e m' hI'.1.2.2.2.2.2.1, hrf m' e66, o_bs, if_neg (neg_nle c1)]
          simp only
          rw [hrf m' e66, o_bs]
    · rw [hX, c3, o_bs, if_pos rfl]
      simp only
      refine wp_bind (wp_mono (x_fitBook hs hl a38 a39) fun q hq => ?_)
      obtain ⟨q1, q2⟩ := hq
      have hsX : oj_sm SX m q.2 := sm_mono q1 fun a j z => by unfold SX; omega
      have hx8 : ∀ q, q < k → m.1 8 q = nI (ρ q) ∧ ρ q < 8 := fun q hq => ⟨(h8 q hq).1, by have := (h8 q hq).2.2; omega⟩
      obtain ⟨U, u1, u2, u3⟩ := x_setOfRow (m := q.2) ((q1.2 6 4 (by omega)).trans h5) hk8 (fun q' hq' => ⟨(q1.2 8 q' (by omega)).trans (hx8 q' hq').1, (hx8 q' hq').2⟩) h9
      have hbU : bc U = k := bc_row (k := k) (n := n) h1 k (fun q hq => (hx8 q hq).2) h9 U u2 u3
      have hUn : U < 2 ^ n := U_lt h1 u2 (fun q hq => (h8 q hq).2.2) u3
      rw [u1, o_bs]
      simp only
      refine wp_bind (wp_mono (x_answer (S := U) (b := b) (F := bkF m s l) (fv := fun p => if p < l then Int64.toInt32 (m.2 40 (60 * s + p)) else -1) (t := t) u2 (by unfold oST at hb; omega) h11 (fun p s' _ _ => ?_) (XK_go hsX (IV_XK hI)) (CB_fr q1 hC (fun i => by omega) (by omega) (by omega) (fun i hi => by omega)) q2 (fun p h => by rw [hbU]; exact ht p h)) fun r hr => ?_)
      · unfold bkF
        constructor
        · intro z
          have := of_decide_eq_true z
          by_cases e : p < l
          · simp only [if_pos e]
            rcases this with w1 | w1 | w1
            · exact absurd e w1
            · exact Or.inl w1
            · exact Or.inr w1
          · simp only [if_neg e]; exact Or.inl trivial
        · intro z
          refine decide_eq_true ?_
          by_cases e : p < l
          · simp only [if_pos e] at z; exact Or.inr z
          · exact Or.inl e
      obtain ⟨r1, r2, r3⟩ := hr
      refine wp_some ⟨sm_trans hsX (sm_mono r2 fun _ _ => SOa_SX), CB_le r3 (by unfold oST; omega), fun m' hI' hsm => ?_⟩
      have hM := IV_MK hI' hsm
      obtain ⟨g1, g2, g3, g4, g5, g6, g7, g8, g9, g10, g11, g12, g13, g14, g15⟩ := id hI'.1
      have e66 : m'.1 66 = m.1 66 := funext fun j => hsm.2 66 j (by unfold SX; omega)
      rw [hMs s hs rfl m' g6, c4 m' e66, o_bs, if_pos (show (0 : Int32) ≤ 0 by decide)]
      simp only
      obtain ⟨U', w1, w2, w3⟩ := m_standing g6 hk8 (fun q hq => ⟨(g8 q hq).2.1, by have := (g8 q hq).2.2; omega⟩) g9
      have : U' = U := sb_inj w2 u2 fun s hs => (w3 s hs).trans (u3 s hs).symm
      subst this
      rw [w1, o_bs]
      simp only
      refine wp_bind (wp_mono (m_orders (S := U') (F := bkF m s l) (v := nI s) h1 hUn hM g4 (fun m2 hs2 e2 p s' hp hs' => ?_)) fun z hz => ?_)
      · unfold f_X11_fitsBook
        have e67 : m2.1 67 s = nI l := by rw [hs2.2 67 s (by unfold SOb SOm MC; omega), hsm.2 67 s (by unfold SX; omega)]; exact a67
        have e2' : m2.2 = m.2 := by rw [hs2.1, hsm.1]
        rw [hbU] at hp
        rw [e2, if_neg (nI_pos (by omega)), oj_ar_ld ar_67 hs, o_bs, e67]
        by_cases e : p < l
        · obtain ⟨x1, x2⟩ := a7 p (by omega)
          rw [if_pos ((nI_ltI (by omega) (by omega)).mpr e), sh_ix2, ol_ld ar_68 (by omega), o_bs, e2', x1]
          have k1 : lg_cmp (m.2 40 (60 * s + p)) (-1 : Int64) = 0 ↔ Int64.toInt32 (m.2 40 (60 * s + p)) = -1 := by
            rw [lg_0]
            constructor
            · intro z; rw [z]; decide
            · intro z; rw [← x2, z]; decide
          have k2 : lg_cmp (m.2 40 (60 * s + p)) (Int32.toInt64 (nI s')) = 0 ↔ Int64.toInt32 (m.2 40 (60 * s + p)) = nI s' := by
            rw [lg_0]
            constructor
            · intro z; rw [z, Int32.toInt32_toInt64]
            · intro z; rw [← x2, z]
          unfold bkF
          by_cases z1 : Int64.toInt32 (m.2 40 (60 * s + p)) = -1
          · rw [if_pos (k1.mpr z1), decide_eq_true (Or.inr (Or.inl z1)), if_pos rfl]
          · rw [if_neg (fun q => z1 (k1.mp q))]
            by_cases z2 : Int64.toInt32 (m.2 40 (60 * s + p)) = nI s'
            · rw [if_pos (k2.mpr z2), decide_eq_true (Or.inr (Or.inr z2)), if_pos rfl]
            · rw [if_neg (fun q => z2 (k2.mp q)), decide_eq_false, if_neg (by decide)]
              rintro (q | q | q)
              · exact q e
              · exact z1 q
              · exact z2 q
        · rw [if_neg (fun q => e ((nI_ltI (by omega) (by omega)).mp q))]
          unfold bkF
          rw [decide_eq_true (Or.inl e), if_pos rfl]
      obtain ⟨z1, z2, z3⟩ := hz
      rw [m_last (fun p h => by rw [hbU]; exact ht p h) z1 z3]
      exact wp_some ⟨r1, sm_mono z2 fun _ _ => SOb_SM⟩
  · have hx : f_X10_book v1 v2 m = some (-1, m) := by
      unfold f_X10_book
      by_cases a : v2 < -1
      · rw [if_pos a]
      · rw [if_neg a, h5, if_neg (Int32.not_lt.mpr (hbad.resolve_left a))]
    refine hno (-1) hx fun m' hI' hsm => ?_
    unfold f_X11_book
    rcases r_cases v1 6 with ⟨s, hs, rfl⟩ | hN
    · rw [m_shelfY hs, o_bs, if_neg i10]
      simp only
      rw [hI'.1.2.2.2.2.2.1, p_inF (by omega) hbad, o_bs, if_pos rfl]
    · rw [m_shelfN hN, o_bs, if_pos rfl]
-- stones
def stp (n cnt i l : Nat) (tv : Nat → Int32) (c : Nat) : Prop := cnt ≤ c ∨ l ≤ i + c ∨ n + c = 8 ∨ ¬ i_wt (tv c)
theorem lg_lt {a c : Nat} (ha : a < 2 ^ 63) (hc : c < 2 ^ 63) : lg_cmp (lN a) (lN c) < 0 ↔ a < c := by
  unfold lg_cmp
  by_cases h : lN a > lN c
  · rw [if_pos h]
    have := (pk_lLT hc ha).mp h
    exact ⟨fun q => absurd q (by decide), fun q => by omega⟩
  · rw [if_neg h]
    by_cases e : lN a = lN c
    · rw [if_pos e]
      have := (pk_lEQ ha hc).mp e
      exact ⟨fun q => absurd q (by decide), fun q => by omega⟩
    · rw [if_neg e]
      refine ⟨fun _ => ?_, fun _ => by decide⟩
      have h1 : ¬ c < a := fun q => h ((pk_lLT hc ha).mpr q)
      have h2 : a ≠ c := fun q => e (by rw [q])
      omega
theorem sub_le2 {l c i : Nat} (hl : l ≤ 60) (hc : c < 2 ^ 31) (hi : i < 2 ^ 31) : nI l - nI c ≤ nI i ↔ l ≤ i + c := by
  rw [Int32.le_iff_toInt_le, Int32.toInt_sub, nI_toInt (n := l) (by omega), nI_toInt hc, nI_toInt hi, Int.bmod_eq_of_le (by omega) (by omega)]
  omega
theorem x_stonesL {n cnt i l s b : Nat} {P : Option (List (List Int32 × List Int32))} {m : ej_M} (hs : s < 6) (hl : l ≤ 60) (hcnt : cnt ≤ 8) (hi : i < 2 ^ 31) (hn8 : n ≤ 8) (h38 : m.1 38 s = 0) (h39 : m.1 39 s = nI l) (h2 : m.1 6 2 = nI n) (hC : CB P b m) :
    oj_wp (f_X10_stones_L49 (nI s) (nI i) (nI cnt) 0 m) fun q => ∃ c, q.1 = nI c ∧ n + c ≤ 8 ∧ stp n cnt i l (fun q => Int64.toInt32 (m.2 40 (60 * s + (i + q)))) c ∧ (∀ c', c' < c → ¬ stp n cnt i l (fun q => Int64.toInt32 (m.2 40 (60 * s + (i + q)))) c') ∧ oj_sm (fun a j => (a = 6 ∧ (j = 2 ∨ j = 14)) ∨ (a = 7 ∧ n ≤ j ∧ j < n + c)) m q.2 ∧ q.2.1 6 2 = nI (n + c) ∧ (∀ q', q' < c → q.2.1 7 (n + q') = Int64.toInt32 (m.2 40 (60 * s + (i + q')))) ∧ CB P (b + 8) q.2 := by
  unfold f_X10_stones_L49
  have key : oj_wp (oj_loop (fun q : (Int32 × ej_M) => f_X10_stones_L49b (nI s) (nI i) (nI cnt) q.1 q.2) oj_FU (0, m)) fun q => ∃ c, q.1 = nI c ∧ n + c ≤ 8 ∧ c ≤ 8 ∧ stp n cnt i l (fun q => Int64.toInt32 (m.2 40 (60 * s + (i + q)))) c ∧ (∀ c', c' < c → ¬ stp n cnt i l (fun q => Int64.toInt32 (m.2 40 (60 * s + (i + q)))) c') ∧ oj_sm (fun a j => (a = 6 ∧ (j = 2 ∨ j = 14)) ∨ (a = 7 ∧ n ≤ j ∧ j < n + c)) m q.2 ∧ q.2.1 6 2 = nI (n + c) ∧ (∀ q', q' < c → q.2.1 7 (n + q') = Int64.toInt32 (m.2 40 (60 * s + (i + q')))) ∧ CB P (b + c) q.2 := by
    refine wp_loop (fun c (z : Int32 × ej_M) => z.1 = nI c ∧ n + c ≤ 8 ∧ (∀ c', c' < c → ¬ stp n cnt i l (fun q => Int64.toInt32 (m.2 40 (60 * s + (i + q)))) c') ∧ oj_sm (fun a j => (a = 6 ∧ (j = 2 ∨ j = 14)) ∨ (a = 7 ∧ n ≤ j ∧ j < n + c)) m z.2 ∧ z.2.1 6 2 = nI (n + c) ∧ (∀ q', q' < c → z.2.1 7 (n + q') = Int64.toInt32 (m.2 40 (60 * s + (i + q')))) ∧ CB P (b + c) z.2) 9 (by decide) (fun c z hc9 hI => ?_) (fun z hI => ?_) (i0 := 0) (by decide) ⟨rfl, hn8, fun c' h => absurd h (Nat.not_lt_zero _), sm_refl, h2, fun q' h => absurd h (Nat.not_lt_zero _), hC⟩
    · obtain ⟨a, m1⟩ := z
      obtain ⟨rfl, i0, i1, i2, i3, i4, i5⟩ := hI
      simp only at i1 i2 i3 i4 i5 ⊢
      have stop : ∀ m2 : ej_M, m2 = m1 → stp n cnt i l (fun q => Int64.toInt32 (m.2 40 (60 * s + (i + q)))) c → oj_wp (some (Sum.inr (nI c, m2) : (Int32 × ej_M) ⊕ (Int32 × ej_M))) (oj_k (fun z => z.1 = nI (c + 1) ∧ n + (c + 1) ≤ 8 ∧ (∀ c', c' < c + 1 → ¬ stp n cnt i l (fun q => Int64.toInt32 (m.2 40 (60 * s + (i + q)))) c') ∧ oj_sm (fun a j => (a = 6 ∧ (j = 2 ∨ j = 14)) ∨ (a = 7 ∧ n ≤ j ∧ j < n + (c + 1))) m z.2 ∧ z.2.1 6 2 = nI (n + (c + 1)) ∧ (∀ q', q' < c + 1 → z.2.1 7 (n + q') = Int64.toInt32 (m.2 40 (60 * s + (i + q')))) ∧ CB P (b + (c + 1)) z.2) fun q => ∃ c, q.1 = nI c ∧ n + c ≤ 8 ∧ c ≤ 8 ∧ stp n cnt i l (fun q => Int64.toInt32 (m.2 40 (60 * s + (i + q)))) c ∧ (∀ c', c' < c → ¬ stp n cnt i l (fun q => Int64.toInt32 (m.2 40 (60 * s + (i + q)))) c') ∧ oj_sm (fun a j => (a = 6 ∧ (j = 2 ∨ j = 14)) ∨ (a = 7 ∧ n ≤ j ∧ j < n + c)) m q.2 ∧ q.2.1 6 2 = nI (n + c) ∧ (∀ q', q' < c → q.2.1 7 (n + q') = Int64.toInt32 (m.2 40 (60 * s + (i + q')))) ∧ CB P (b + c) q.2) := fun m2 e h => by
        rw [e]
        exact wp_inr ⟨c, rfl, i0, by omega, h, i1, i2, i3, i4, i5⟩
      unfold f_X10_stones_L49b
      by_cases e1 : cnt ≤ c
      · rw [if_pos ((nI_leI (by omega) (by omega)).mpr e1)]
        exact stop m1 rfl (Or.inl e1)
      rw [if_neg (fun q => e1 ((nI_leI (by omega) (by omega)).mp q)), x_length hs, o_bs, i2.2 38 s (by omega), h38, if_neg (show ¬ (0 : Int32) < 0 by decide), i2.2 39 s (by omega), h39]
      simp only
      by_cases e2 : l ≤ i + c
      · rw [if_pos ((sub_le2 hl (by omega) hi).mpr e2)]
        exact stop m1 rfl (Or.inr (Or.inl e2))
      rw [if_neg (fun q => e2 ((sub_le2 hl (by omega) hi).mp q)), nI_add, x_valueAt hs (by omega), o_bs, i2.1]
      simp only
      by_cases e4 : i_wt (Int64.toInt32 (m.2 40 (60 * s + (i + c))))
      · by_cases e3 : n + c = 8
        · rw [x_bringF i3 e3 e4, o_bs, if_neg (show ¬ (0 : Int32) ≤ -3 by decide)]
          exact stop m1 rfl (Or.inr (Or.inr (Or.inl e3)))
        · rw [x_bring i3 (by omega) e4, o_bs, if_pos (nI_0le (by omega)), nI_1]
          have hsm : oj_sm (fun a j => (a = 6 ∧ (j = 2 ∨ j = 14)) ∨ (a = 7 ∧ n ≤ j ∧ j < n + (c + 1))) m1 (ej_w (x_wm m1 (n + c) (Int64.toInt32 (m.2 40 (60 * s + (i + c))))) 6 2 (nI (n + c + 1))) := by
            unfold x_wm
            refine sm_trans (sm_trans (sm_upd ?_) (sm_w ?_)) (sm_w ?_) <;> omega
          refine wp_inl ⟨rfl, by omega, fun c' hc' => ?_, sm_trans (sm_mono i2 fun a j q => by omega) hsm, w_same, fun q' hq' => ?_, ?_⟩
          · by_cases e : c' = c
            · rw [e]
              rintro (q | q | q | q)
              · exact e1 q
              · exact e2 q
              · exact e3 q
              · exact q e4
            · exact i1 c' (by omega)
          · simp only
            rw [w_place (by decide)]
            unfold x_wm
            simp only [oj_row_rd, ej_w_rd, upd_rd, reduceIte, Nat.reduceEqDiff]
            by_cases e : q' = c
            · rw [e, if_pos rfl]
            · rw [if_neg (by omega)]; exact i4 q' (by omega)
          · have := CB_weigh (i := n + c) (v := Int64.toInt32 (m.2 40 (60 * s + (i + c)))) i5
            exact CB_congr this (fun i _ => by simp only; rw [w_place (by decide)]) (by simp only; rw [w_other (by omega)]) (by simp only; rw [w_other (by omega)]) (fun i _ => by simp only; rw [w_place (by decide)])
      · rw [x_bringN e4, o_bs, if_neg (show ¬ (0 : Int32) ≤ -1 by decide)]
        exact stop m1 rfl (Or.inr (Or.inr (Or.inr e4)))
    · obtain ⟨a, m1⟩ := z
      obtain ⟨rfl, i0, _⟩ := hI
      omega
  refine wp_mono key fun q hq => ?_
  obtain ⟨c, c1, c2, c3, c4, c5, c6, c7, c8, c9⟩ := hq
  exact ⟨c, c1, c2, c4, c5, c6, c7, c8, CB_le c9 (by omega)⟩
theorem m_stonesL {n cnt i l s : Nat} {m : ej_M} (hs : s < 6) (hl : l ≤ 60) (hcnt : cnt ≤ 8) (hi : i < 2 ^ 31) (hn8 : n ≤ 8) (h67 : m.1 67 s = nI l) (h1 : m.1 41 1 = nI n) :
    oj_wp (f_X11_stones_L58 (nI s) (nI i) (nI cnt) 0 m) fun q => ∃ c, q.1 = nI c ∧ n + c ≤ 8 ∧ stp n cnt i l (fun q => Int64.toInt32 (m.2 68 (60 * s + (i + q)))) c ∧ (∀ c', c' < c → ¬ stp n cnt i l (fun q => Int64.toInt32 (m.2 68 (60 * s + (i + q)))) c') ∧ oj_sm (fun a j => (a = 41 ∧ j = 1) ∨ (a = 42 ∧ n ≤ j ∧ j < n + c)) m q.2 ∧ q.2.1 41 1 = nI (n + c) ∧ ∀ q', q' < c → q.2.1 42 (n + q') = Int64.toInt32 (m.2 68 (60 * s + (i + q'))) := by
  unfold f_X11_stones_L58
  refine wp_loop (fun c (z : Int32 × ej_M) => z.1 = nI c ∧ n + c ≤ 8 ∧ (∀ c', c' < c → ¬ stp n cnt i l (fun q => Int64.toInt32 (m.2 68 (60 * s + (i + q)))) c') ∧ oj_sm (fun a j => (a = 41 ∧ j = 1) ∨ (a = 42 ∧ n ≤ j ∧ j < n + c)) m z.2 ∧ z.2.1 41 1 = nI (n + c) ∧ ∀ q', q' < c → z.2.1 42 (n + q') = Int64.toInt32 (m.2 68 (60 * s + (i + q')))) 9 (by decide) (fun c z hc9 hI => ?_) (fun z hI => ?_) (i0 := 0) (by decide) ⟨rfl, hn8, fun c' h => absurd h (Nat.not_lt_zero _), sm_refl, h1, fun q' h => absurd h (Nat.not_lt_zero _)⟩
  · obtain ⟨a, m1⟩ := z
    obtain ⟨rfl, i0, i1, i2, i3, i4⟩ := hI
    simp only at i1 i2 i3 i4 ⊢
    unfold f_X11_stones_L58b
    have stop : stp n cnt i l (fun q => Int64.toInt32 (m.2 68 (60 * s + (i + q)))) c → oj_k (fun z => z.1 = nI (c + 1) ∧ n + (c + 1) ≤ 8 ∧ (∀ c', c' < c + 1 → ¬ stp n cnt i l (fun q => Int64.toInt32 (m.2 68 (60 * s + (i + q)))) c') ∧ oj_sm (fun a j => (a = 41 ∧ j = 1) ∨ (a = 42 ∧ n ≤ j ∧ j < n + (c + 1))) m z.2 ∧ z.2.1 41 1 = nI (n + (c + 1)) ∧ ∀ q', q' < c + 1 → z.2.1 42 (n + q') = Int64.toInt32 (m.2 68 (60 * s + (i + q')))) (fun q => ∃ c, q.1 = nI c ∧ n + c ≤ 8 ∧ stp n cnt i l (fun q => Int64.toInt32 (m.2 68 (60 * s + (i + q)))) c ∧ (∀ c', c' < c → ¬ stp n cnt i l (fun q => Int64.toInt32 (m.2 68 (60 * s + (i + q)))) c') ∧ oj_sm (fun a j => (a = 41 ∧ j = 1) ∨ (a = 42 ∧ n ≤ j ∧ j < n + c)) m q.2 ∧ q.2.1 41 1 = nI (n + c) ∧ ∀ q', q' < c → q.2.1 42 (n + q') = Int64.toInt32 (m.2 68 (60 * s + (i + q')))) (Sum.inr (nI c, m1) : (Int32 × ej_M) ⊕ (Int32 × ej_M)) := fun h => ⟨c, rfl, i0, h, i1, i2, i3, i4⟩
    by_cases e1 : cnt ≤ c
    · rw [if_pos ((nI_leI (by omega) (by omega)).mpr e1)]
      have hcc : cnt = c := by
        by_cases q : cnt = c
        · exact q
        · exact absurd (Or.inl (Nat.le_refl cnt)) (i1 cnt (by omega))
      exact wp_eq (a := Sum.inr (nI c, m1)) (by rw [hcc]) (stop (Or.inl e1))
    rw [if_neg (fun q => e1 ((nI_leI (by omega) (by omega)).mp q)), nI_l hi, nI_l (n := c) (by omega), lN_add, show (0 : Int64) = lN 0 from rfl, if_neg (fun q => by have := (lg_lt (by omega) (by omega)).mp q; omega), oj_ar_ld ar_67 hs, o_bs, i2.2 67 s (by omega), h67, nI_l (n := l) (by omega)]
    by_cases e2 : l ≤ i + c
    · rw [if_pos (Int32.not_lt.mp (fun q => by have := (lg_lt (by omega) (by omega)).mp q; omega))]
      exact wp_eq rfl (stop (Or.inr (Or.inl e2)))
    rw [if_neg (fun q => absurd ((lg_lt (by omega) (by omega)).mpr (show i + c < l by omega)) (Int32.not_lt.mpr q)), i3]
    by_cases e3 : n + c = 8
    · rw [if_pos (by rw [e3]; decide)]
      exact wp_eq rfl (stop (Or.inr (Or.inr (Or.inl e3))))
    rw [if_neg (show ¬ nI (n + c) = 8 from fun q => e3 (nI_inj (b := 8) (by omega) (by decide) q)), lN_i, sh_ix2, ol_ld ar_68 (by omega), o_bs, i2.1]
    by_cases e4 : i_wt (Int64.toInt32 (m.2 68 (60 * s + (i + c))))
    · rw [m_isWeightY e4, o_bs, if_neg i10]
      simp only
      rw [m_add i3 (by omega), o_bs, nI_1]
      have hsm : oj_sm (fun a j => (a = 41 ∧ j = 1) ∨ (a = 42 ∧ n ≤ j ∧ j < n + (c + 1))) m1 (ej_w (oj_row m1 42 (upd (m1.1 42) (n + c) (Int64.toInt32 (m.2 68 (60 * s + (i + c)))))) 41 1 (nI (n + c + 1))) := by
        refine sm_trans (sm_upd ?_) (sm_w ?_) <;> omega
      refine wp_inl ⟨rfl, by omega, fun c' hc' => ?_, sm_trans (sm_mono i2 fun a j q => by omega) hsm, w_same, fun q' hq' => ?_⟩
      · by_cases e : c' = c
        · rw [e]
          rintro (q | q | q | q)
          · exact e1 q
          · exact e2 q
          · exact e3 q
          · exact q e4
        · exact i1 c' (by omega)
      · simp only
        rw [w_place (by decide), oj_row_s]
        unfold upd
        by_cases e : q' = c
        · rw [e, if_pos rfl]
        · rw [if_neg (by omega)]; exact i4 q' (by omega)
    · rw [m_isWeightN e4, o_bs, if_pos rfl]
      exact wp_eq rfl (stop (Or.inr (Or.inr (Or.inr e4))))
  · obtain ⟨a, m1⟩ := z
    obtain ⟨rfl, i0, _⟩ := hI
    omega
theorem op_stones (v1 v2 v3 : Int32) : OP (f_X10_stones v1 v2 v3) (f_X11_stones v1 v2 v3) := by
  intro L xs b m ⟨n, k, ρ, P, nb, hI, hC⟩ hb
  obtain ⟨h1, h2, h3, h4, h5, h6, h7, h8, h9, h10, h11, h12, h13, h14, h15⟩ := id hI.1
  have hF := hI.2.2.2.2.2.1
  have hnb := hI.2.2.2.2.1.1
  have hno : ∀ c : Int32, f_X10_stones v1 v2 v3 m = some (c, m) → f_X11_stones v1 v2 v3 m = some (c, m) → oj_wp (f_X10_stones v1 v2 v3 m) fun q => (q.2.1 4000 = m.1 4000 ∧ q.2.1 4001 = m.1 4001) ∧ oj_wp (f_X11_stones v1 v2 v3 q.2) fun r => q.1 = r.1 ∧ Inv L xs (b + oST) r.2 := fun c e1 e2 => by
    rw [e1]
    refine wp_some ⟨⟨rfl, rfl⟩, ?_⟩
    simp only
    rw [e2]
    exact wp_some ⟨rfl, n, k, ρ, P, nb, hI, CB_step hC⟩
  rcases r_cases v1 6 with ⟨s, hs, rfl⟩ | hN
  rotate_left
  · refine hno (-1) ?_ ?_
    · unfold f_X10_stones; rw [x_shelfN hN, o_bs, if_pos rfl]
    · unfold f_X11_stones; rw [m_shelfN hN, o_bs, if_pos rfl]
  by_cases hc : 1 ≤ v3 ∧ v3 ≤ 8
  rotate_left
  · refine hno (-1) ?_ ?_
    · unfold f_X10_stones
      rw [x_shelfY hs, o_bs, if_neg i10]
      by_cases a : v3 < 1
      · rw [if_pos a]
      · rw [if_neg a, if_neg (fun c => hc ⟨Int32.not_lt.mp a, c⟩)]
    · unfold f_X11_stones
      rw [m_shelfY hs, o_bs, if_neg i10, p_in0 hc, o_bs, if_pos rfl]
  obtain ⟨cnt, hcl, rfl⟩ := nI_of (x := v3) (fun q => absurd (Int32.lt_of_lt_of_le q (by decide : (0 : Int32) ≤ 1)) (fun z => absurd (Int32.lt_of_le_of_lt hc.1 z) (by decide)))
  have hc8 : cnt ≤ 8 := (nI_leI (b := 8) hcl (by decide)).mp hc.2
  have hx : ∀ q2 : Int32, f_X6_refusesBytes (nI s) m = some (q2, m) → f_X10_stones (nI s) v2 (nI cnt) m = if q2 = -12 then some (-12, m) else if 0 ≤ v2 then f_X10_stones_L49 (nI s) v2 (nI cnt) 0 m else some (0, m) := fun q2 e => by
    unfold f_X10_stones
    rw [x_shelfY hs, o_bs, if_neg i10, if_neg (Int32.not_lt.mpr hc.1), if_pos hc.2]
    simp only
    rw [e, o_bs]
  have hm : ∀ m' : ej_M, m'.1 66 = m.1 66 → f_X11_stones (nI s) v2 (nI cnt) m' = if m.1 66 s = -1 then some (0, m') else if m.1 66 s = -2 then f_X11_stones_L58 (nI s) v2 (nI cnt) 0 m' else some (-12, m') := fun m' e => by
    unfold f_X11_stones f_X11_stones_B43
    rw [m_shelfY hs, o_bs, if_neg i10, p_in1 hc.1 hc.2, o_bs, if_neg i10]
    simp only
    rw [oj_ar_ld ar_66 hs, o_bs, o_bs, o_bs, e]
    by_cases q1 : m.1 66 s = -1
    · rw [if_pos q1, if_pos q1, if_pos q1]
    · rw [if_neg q1, if_neg q1, if_neg q1]
  have hXr : f_X6_refusesBytes (nI s) m = if x_rr (m.1 38 s) = 0 then (if m.1 38 s = 0 then some (0, m) else some (-12, m)) else some (x_rr (m.1 38 s), m) := by
    unfold f_X6_refusesBytes
    rw [x_refRow hs, o_bs]
    simp only
    rw [x_at38 hs, o_bs]
  rcases hF s hs with ⟨a1, a2⟩ | ⟨bb, a1, a2, a3, a4⟩ | ⟨t, l, a1, a2, a3, a4, a5, a6, a7⟩
  · -- nothing there
    have e0 : f_X6_refusesBytes (nI s) m = some (-11, m) := by rw [hXr, a1]; rfl
    refine hno 0 ?_ (by rw [hm m rfl, if_pos a2])
    rw [hx _ e0, if_neg (by decide)]
    by_cases z : 0 ≤ v2
    · rw [if_pos z]
      unfold f_X10_stones_L49
      rw [show oj_FU = 99999 + 1 from rfl]
      refine wp_get (wp_loop1 ?_)
      simp only
      unfold f_X10_stones_L49b
      have hc1 : 1 ≤ cnt := (nI_leI (a := 1) (by decide) hcl).mp hc.1
      obtain ⟨i, hi, rfl⟩ := nI_of (Int32.not_lt.mpr z)
      rw [if_neg (show ¬ nI cnt ≤ 0 from fun q => by have := (nI_leI (b := 0) hcl (by decide)).mp q; omega), x_length hs, o_bs, a1, if_pos (show (-2 : Int32) < 0 by decide)]
      simp only
      rw [if_pos (show (0 : Int32) - 0 ≤ nI i from nI_0le hi)]
      exact wp_inr rfl
    · rw [if_neg z]
  · have e0 : f_X6_refusesBytes (nI s) m = some (-12, m) := by rw [hXr, a2]; rfl
    refine hno (-12) ?_ (by rw [hm m rfl, a4, if_neg (nI_neq1 (by omega)), if_neg (nI_neq2 (by omega))])
    rw [hx _ e0, if_pos rfl]
  · obtain ⟨b1, b2, b3⟩ := m_srt t a1
    rw [a3, x_rr_row a1, if_pos rfl] at hXr
    by_cases et : t = 0
    rotate_left
    · have e0 : f_X6_refusesBytes (nI s) m = some (-12, m) := by rw [hXr, if_neg (fun q => et ((nI_eq0 (by omega)).mp q))]
      refine hno (-12) ?_ (by rw [hm m rfl, a4, if_neg b2, if_neg (fun q => et ((m_srt_inj t a1 0 (by decide)).mp (by rw [q]; decide)))])
      rw [hx _ e0, if_pos rfl]
    subst et
    have e0 : f_X6_refusesBytes (nI s) m = some (0, m) := by rw [hXr, if_pos (show nI 0 = 0 from rfl)]
    have hm2 : ∀ m' : ej_M, m'.1 66 = m.1 66 → f_X11_stones (nI s) v2 (nI cnt) m' = f_X11_stones_L58 (nI s) v2 (nI cnt) 0 m' := fun m' e => by
      rw [hm m' e, a4, if_neg (by decide), if_pos (by decide)]
    rw [hx _ e0, if_neg (by decide)]
    by_cases z : 0 ≤ v2
    · rw [if_pos z]
      obtain ⟨i, hi, rfl⟩ := nI_of (Int32.not_lt.mpr z)
      refine wp_mono (x_stonesL hs a2 hc8 hi h1 a3 a5 h3 hC) fun q hq => ?_
      obtain ⟨c, c1, c2, c3, c4, c5, c6, c7, c8⟩ := hq
      refine ⟨⟨funext fun j => c5.2 4000 j (by omega), funext fun j => c5.2 4001 j (by omega)⟩, ?_⟩
      rw [hm2 q.2 (funext fun j => c5.2 66 j (by omega))]
      refine wp_mono (m_stonesL (n := n) (l := l) hs a2 hc8 hi h1 ((c5.2 67 s (by omega)).trans a6) ((c5.2 41 1 (by omega)).trans h4)) fun r hr => ?_
      obtain ⟨c', d1, d2, d3, d4, d5, d6, d7⟩ := hr
      have htv : ∀ x, i + x < l → q.2.2 68 (60 * s + (i + x)) = m.2 40 (60 * s + (i + x)) := fun x hx => by rw [c5.1]; exact (a7 _ (by omega)).1
      have hst : ∀ x, stp n cnt i l (fun y => Int64.toInt32 (q.2.2 68 (60 * s + (i + y)))) x ↔ stp n cnt i l (fun y => Int64.toInt32 (m.2 40 (60 * s + (i + y)))) x := fun x => by
        unfold stp
        by_cases e : l ≤ i + x
        · exact ⟨fun _ => Or.inr (Or.inl e), fun _ => Or.inr (Or.inl e)⟩
        · simp only [htv x (by omega)]
      have hcc : c' = c := by
        rcases Nat.lt_trichotomy c' c with u | u | u
        · exact absurd ((hst c').mp d3) (c4 c' u)
        · exact u
        · exact absurd ((hst c).mpr c3) (d4 c u)
      subst hcc
      have hin : ∀ x, x < c' → i + x < l := fun x hx => by
        by_cases e : i + x < l
        · exact e
        · exact absurd (Or.inr (Or.inl (by omega))) (c4 x hx)
      refine ⟨by rw [c1, d1], n + c', k, ρ, P, nb, IV_stones hI (sm_trans (sm_mono c5 fun a j q => ?_) (sm_mono d5 fun a j q => ?_)) c2 ?_ d6 (fun x hx => ⟨?_, ?_⟩) (fun x hx => ?_), ?_⟩
      · unfold sST; omega
      · unfold sST; omega
      · rw [d5.2 6 2 (by omega)]; exact c6
      · rw [d5.2 7 x (by omega), c5.2 7 x (by omega)]
      · rw [d5.2 42 x (by omega), c5.2 42 x (by omega)]
      · rw [d7 x hx, d5.2 7 _ (by omega), c7 x hx, htv x (hin x hx)]
        refine ⟨rfl, ?_⟩
        by_cases e : i_wt (Int64.toInt32 (m.2 40 (60 * s + (i + x))))
        · exact e
        · exact absurd (Or.inr (Or.inr (Or.inr e))) (c4 x hx)
      · exact CB_le (CB_fr d5 c8 (fun i => by omega) (by omega) (by omega) (fun i hi => by omega)) (by unfold oST; omega)
    · -- a place below 0
      rw [if_neg z]
      refine wp_some ⟨⟨rfl, rfl⟩, ?_⟩
      simp only
      rw [hm2 m rfl]
      have hz : f_X11_stones_L58 (nI s) v2 (nI cnt) 0 m = some (0, m) := by
        unfold f_X11_stones_L58
        rw [show oj_FU = 99999 + 1 from rfl]
        refine wp_get (wp_loop1 ?_)
        simp only
        unfold f_X11_stones_L58b
        have hc1 : 1 ≤ cnt := (nI_leI (a := 1) (by decide) hcl).mp hc.1
        rw [if_neg (show ¬ nI cnt ≤ 0 from fun q => by have := (nI_leI (b := 0) hcl (by decide)).mp q; omega)]
        have hneg : lg_cmp (Int32.toInt64 v2 + Int32.toInt64 0) (0 : Int64) < 0 := by
          rw [show Int32.toInt64 0 = 0 by decide, Int64.add_zero]
          have hv : Int32.toInt64 v2 < 0 := by
            rw [Int64.lt_iff_toInt_lt, Int32.toInt_toInt64]
            have := Int32.not_le.mp z
            rw [Int32.lt_iff_toInt_lt] at this
            exact this
          unfold lg_cmp
          rw [if_neg (fun q => Int64.lt_irrefl (Int64.lt_trans hv q)), if_neg (fun q => by rw [q] at hv; exact Int64.lt_irrefl hv)]
          decide
        rw [if_pos hneg]
        exact wp_inr rfl
      rw [hz]
      exact wp_some ⟨rfl, n, k, ρ, P, nb, hI, CB_step hC⟩
