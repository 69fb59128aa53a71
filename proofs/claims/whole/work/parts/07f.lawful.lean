/-! the verdicts that the class keeps; one place of a row judged on both sides -/
def oj_sm (S : Nat → Nat → Prop) (m m' : ej_M) : Prop := m'.2 = m.2 ∧ ∀ a j, ¬ S a j → m'.1 a j = m.1 a j
theorem sm_refl {S : Nat → Nat → Prop} {m : ej_M} : oj_sm S m m := ⟨rfl, fun _ _ _ => rfl⟩
theorem sm_trans {S : Nat → Nat → Prop} {a b c : ej_M} (h : oj_sm S a b) (k : oj_sm S b c) : oj_sm S a c := ⟨k.1.trans h.1, fun x j hx => (k.2 x j hx).trans (h.2 x j hx)⟩
theorem sm_mono {S T : Nat → Nat → Prop} {a b : ej_M} (h : oj_sm S a b) (k : ∀ x j, S x j → T x j) : oj_sm T a b := ⟨h.1, fun x j hx => h.2 x j fun q => hx (k x j q)⟩
theorem sm_row {S : Nat → Nat → Prop} {m : ej_M} {a : Nat} {f : Nat → Int32} (h : ∀ j, ¬ S a j → f j = m.1 a j) : oj_sm S m (oj_row m a f) := by
  refine ⟨rfl, fun b j hb => ?_⟩
  by_cases e : b = a
  · subst e; rw [oj_row_s]; exact h j hb
  · rw [oj_row_n e]
theorem sm_upd {S : Nat → Nat → Prop} {m : ej_M} {a k : Nat} {v : Int32} (h : S a k) : oj_sm S m (oj_row m a (upd (m.1 a) k v)) := by
  refine sm_row fun j hj => ?_
  unfold upd
  rw [if_neg (fun e => hj (by rw [e]; exact h))]
theorem ej_w_at {m : ej_M} {a b i j : Nat} {v : Int32} : (ej_w m a j v).1 b i = if b = a ∧ i = j then v else m.1 b i := by
  rw [ej_w_row]
  by_cases h : b = a
  · subst h
    rw [oj_row_s]
    unfold upd
    by_cases e : i = j
    · rw [if_pos e, if_pos ⟨rfl, e⟩]
    · rw [if_neg e, if_neg (fun q => e q.2)]
  · rw [oj_row_n h, if_neg (fun q => h q.1)]
theorem sm_w {S : Nat → Nat → Prop} {m : ej_M} {a k : Nat} {v : Int32} (h : S a k) : oj_sm S m (ej_w m a k v) := by
  rw [ej_w_row]
  exact sm_upd h
theorem w_same {m : ej_M} {a j : Nat} {v : Int32} : (ej_w m a j v).1 a j = v := by rw [ej_w_at, if_pos ⟨rfl, rfl⟩]
theorem w_other {m : ej_M} {a b i j : Nat} {v : Int32} (h : ¬ (b = a ∧ i = j)) : (ej_w m a j v).1 b i = m.1 b i := by rw [ej_w_at, if_neg h]
theorem w_place {m : ej_M} {a b j : Nat} {v : Int32} (h : b ≠ a) : (ej_w m a j v).1 b = m.1 b := by rw [ej_w_row, oj_row_n h]
theorem r_at {m : ej_M} {a b k i : Nat} {v : Int32} : (oj_row m a (upd (m.1 a) k v)).1 b i = if b = a ∧ i = k then v else m.1 b i := by
  rw [← ej_w_row, ej_w_at]
-- bits of small ints
theorem nb_and (a b : Nat) : nI a &&& nI b = nI (a &&& b) := by
  apply Int32.toBitVec_inj.1
  show BitVec.ofNat 32 a &&& BitVec.ofNat 32 b = BitVec.ofNat 32 (a &&& b)
  apply BitVec.eq_of_toNat_eq
  simp only [BitVec.toNat_and, BitVec.toNat_ofNat, Nat.and_mod_two_pow]
theorem nb_sl : ∀ n, n < 32 → ((nI n &&& 31).toBitVec.smod 32).toNat = n := by decide +kernel
theorem nb_shr {x n : Nat} (hx : x < 2 ^ 31) (hn : n < 32) : nI x >>> (nI n &&& 31) = nI (x / 2 ^ n) := by
  apply Int32.toBitVec_inj.1
  rw [Int32.toBitVec_shiftRight]
  unfold BitVec.sshiftRight'
  rw [nb_sl n hn]
  have hm : (BitVec.ofNat 32 x).msb = false := by
    rw [BitVec.msb_eq_decide, BitVec.toNat_ofNat]
    simp
    omega
  show (BitVec.ofNat 32 x).sshiftRight n = BitVec.ofNat 32 (x / 2 ^ n)
  rw [BitVec.sshiftRight_eq_of_msb_false hm]
  apply BitVec.eq_of_toNat_eq
  rw [BitVec.toNat_ushiftRight, BitVec.toNat_ofNat, BitVec.toNat_ofNat, Nat.mod_eq_of_lt (by omega), Nat.shiftRight_eq_div_pow, Nat.mod_eq_of_lt]
  exact Nat.lt_of_le_of_lt (Nat.div_le_self _ _) (by omega)
theorem nb_half {x : Nat} (hx : x < 2 ^ 31) : nI x >>> ((1 : Int32) &&& 31) = nI (x / 2) := nb_shr (n := 1) hx (by decide)
theorem nb_low (x : Nat) : nI x &&& (1 : Int32) = nI (x % 2) := by
  rw [show (1 : Int32) = nI 1 from rfl, nb_and, show (1 : Nat) = 2 ^ 1 - 1 from rfl, Nat.and_two_pow_sub_one_eq_mod]
-- what stands beside
def pl_l (g : Int32) (n p : Nat) : Nat := if p = 0 then (if g = 0 then 0 else n) else p
def pl_r (g : Int32) (n p : Nat) : Nat := if p + 1 < n then p + 2 else if g = 0 then 0 else 1
def lw_c (ρ : Nat → Nat) (c : Nat) : Nat := if c = 0 then 0 else ρ (c - 1) + 1
def lw_w (wt : Nat → Int32) (c : Nat) : Int32 := if c = 0 then 0 else wt (c - 1)
def lw (P : Option (List (List Int32 × List Int32))) (wt : Nat → Int32) (g : Int32) (ρ : Nat → Nat) (n p : Nat) : Bool :=
  decide (tk_law P (wt (ρ p)) (lw_w wt (lw_c ρ (pl_l g n p))) (lw_w wt (lw_c ρ (pl_r g n p))) (nI p) (nI n) (nI (ρ p)) ≠ 0)
theorem pl_l_le {g : Int32} {n p : Nat} (h : p < n) : pl_l g n p ≤ n := by
  unfold pl_l; split <;> (try split) <;> omega
theorem pl_r_le {g : Int32} {n p : Nat} (h : p < n) : pl_r g n p ≤ n := by
  unfold pl_r; split <;> (try split) <;> omega
theorem nI_lit0 : (0 : Int32) = nI 0 := rfl
theorem nI_m1c : nI 0 - 1 = (-1 : Int32) := by decide
theorem nI_cm1 {c : Nat} (hc : c < 2 ^ 31) : nI c - 1 = (-1 : Int32) ↔ c = 0 := by
  constructor
  · intro h
    rw [Int32.sub_eq_iff_eq_add] at h
    have : nI c = nI 0 := by rw [h]; decide
    exact nI_inj hc (by decide) this
  · rintro rfl; decide
theorem x_left {m : ej_M} {n p : Nat} (hp : p < n) (hn : n < 2 ^ 31) : f_X4_placeBeside (nI p) (nI n) (-1) m = some (nI (pl_l (m.1 6 5) n p) - 1, m) := by
  unfold f_X4_placeBeside pl_l
  by_cases h0 : p = 0
  · subst h0
    rw [if_pos (by decide), if_pos rfl]
    unfold f_X4_placeBeside_B19
    by_cases hg : m.1 6 5 = 0
    · rw [if_pos hg, if_pos hg]; rfl
    · rw [if_neg hg, if_neg hg, if_neg (by decide)]
  · rw [if_neg h0, nI_am1 (by omega), if_neg (nI_pos (by omega)), if_neg (fun q => by have := (nI_leI (by omega) (by omega)).mp q; omega), nI_m1 (by omega)]
theorem x_right {m : ej_M} {n p : Nat} (hp : p < n) (hn : n < 2 ^ 31) : f_X4_placeBeside (nI p) (nI n) 1 m = some (nI (pl_r (m.1 6 5) n p) - 1, m) := by
  unfold f_X4_placeBeside pl_r
  rw [nI_1, if_neg (nI_pos (by omega))]
  by_cases h : p + 1 < n
  · rw [if_pos h, if_neg (fun q => by have := (nI_leI (by omega) (by omega)).mp q; omega)]
    rw [nI_m1 (by omega)]
    rfl
  · rw [if_neg h, if_pos ((nI_leI (by omega) (by omega)).mpr (by omega))]
    unfold f_X4_placeBeside_B19
    by_cases hg : m.1 6 5 = 0
    · rw [if_pos hg, if_pos hg]; rfl
    · rw [if_neg hg, if_neg hg, if_pos (by rw [nI_lit0]; exact (nI_leI (by decide) (by omega)).mpr (by omega))]; rfl
theorem ar_7 : oj_ar 7 9 := ⟨⟨_, sh_7⟩, by decide⟩
theorem ar_10 : oj_ar 10 5832 := ⟨⟨_, sh_10⟩, by decide⟩
theorem x_weight {m : ej_M} {c : Nat} (hc : c ≤ 9) : f_X4_weightOf (nI c - 1) m = some (lw_w (m.1 7) c, m) := by
  unfold f_X4_weightOf lw_w
  by_cases h : c = 0
  · subst h
    rw [if_pos rfl, p_atN (by decide)]
    rfl
  · rw [if_neg h, nI_m1 (by omega), p_at1 ar_7 (by omega)]
    rfl
theorem x_weightN {m : ej_M} {c : Nat} (hc : c < 9) : f_X4_weightOf (nI c) m = some (m.1 7 c, m) := by
  unfold f_X4_weightOf
  rw [p_at1 ar_7 hc]
  rfl
-- the cache
def CI_k (P : Option (List (List Int32 × List Int32))) (m : ej_M) (jf i : Nat) : Int32 := tk_law P (m.1 7 (i / 9 % 8)) (lw_w (m.1 7) (i / 72 % 9)) (lw_w (m.1 7) (i % 9)) (nI (i / 648)) (nI jf) (nI (i / 9 % 8))
def CI (P : Option (List (List Int32 × List Int32))) (t jf : Nat) (m : ej_M) : Prop := m.1 6 14 = nI t ∧ 1 ≤ t ∧ m.1 6 15 = nI jf ∧ jf < 10 ∧ ∀ i, i < 5832 → ∃ x, m.1 10 i = nI x ∧ x / 2 ≤ t ∧ (x / 2 = t → (x % 2 = 1 ↔ CI_k P m jf i ≠ 0))
def XC (a j : Nat) : Prop := a = 5 ∨ a = 10 ∨ (a = 6 ∧ (j = 14 ∨ j = 15))
/-- a new stamp: nothing that is kept counts -/
theorem CI_anew {P P' : Option (List (List Int32 × List Int32))} {t jf jf' : Nat} {m m' : ej_M} (h : CI P t jf m) (h10 : ∀ i, i < 5832 → m'.1 10 i = m.1 10 i) (h14 : m'.1 6 14 = nI (t + 1)) (h15 : m'.1 6 15 = nI jf') (hj : jf' < 10) : CI P' (t + 1) jf' m' := by
  obtain ⟨h1, h2, h3, h4, h5⟩ := h
  refine ⟨h14, by omega, h15, hj, fun i hi => ?_⟩
  obtain ⟨x, x1, x2, x3⟩ := h5 i hi
  exact ⟨x, (h10 i hi).trans x1, by omega, fun e => by omega⟩
theorem CI_congr {P : Option (List (List Int32 × List Int32))} {t jf : Nat} {m m' : ej_M} (h : CI P t jf m) (h10 : ∀ i, i < 5832 → m'.1 10 i = m.1 10 i) (h14 : m'.1 6 14 = m.1 6 14) (h15 : m'.1 6 15 = m.1 6 15) (h7 : ∀ i, i < 8 → m'.1 7 i = m.1 7 i) : CI P t jf m' := by
  obtain ⟨h1, h2, h3, h4, h5⟩ := h
  refine ⟨h14.trans h1, h2, h15.trans h3, h4, fun i hi => ?_⟩
  obtain ⟨x, x1, x2, x3⟩ := h5 i hi
  refine ⟨x, (h10 i hi).trans x1, x2, fun e => ?_⟩
  rw [x3 e]
  have e1 : CI_k P m' jf i = CI_k P m jf i := by
    have hw : ∀ c, c < 9 → lw_w (m'.1 7) c = lw_w (m.1 7) c := fun c hc => by
      unfold lw_w
      by_cases h0 : c = 0
      · rw [if_pos h0, if_pos h0]
      · rw [if_neg h0, if_neg h0, h7 _ (by omega)]
    unfold CI_k
    rw [h7 _ (by omega), hw _ (by omega), hw _ (by omega)]
  rw [e1]
theorem x_173 {m : ej_M} {x : Nat} : f_X4_isLawfulAt_B173 (nI x) m = some (if x % 2 = 1 then 1 else 0, m) := by
  unfold f_X4_isLawfulAt_B173
  rw [nb_low]
  by_cases h : x % 2 = 1
  · rw [h, if_pos (by decide), if_pos rfl]
  · rw [show x % 2 = 0 by omega, if_neg (by decide), if_neg (by decide)]
theorem x_slot {m : ej_M} {p lc s rc : Nat} (hs : s < 8) (hl : lc < 9) (hr : rc < 9) : f_X4_slotOf (nI p) (nI s) (nI lc - 1) (nI rc - 1) m = some (nI (p * 648 + lc * 72 + s * 9 + rc), m) := by
  unfold f_X4_slotOf
  have h8 : ∀ c, c < 9 → ¬ nI c - 1 = (8 : Int32) := fun c hc e => by
    rw [Int32.sub_eq_iff_eq_add] at e
    have : c = 9 := nI_inj (by omega) (by decide) (by rw [e]; decide)
    omega
  rw [if_neg (fun e => by have := nI_inj (a := s) (b := 8) (by omega) (by decide) e; omega), if_neg (h8 lc hl), if_neg (h8 rc hr)]
  have e1 : ∀ a b : Int32, a + (b - 1) + 1 = a + b := fun a b => by rw [Int32.add_assoc, Int32.sub_add_cancel]
  rw [e1, e1, show (9 : Int32) = nI 9 from rfl, show (8 : Int32) = nI 8 from rfl, nI_mul, nI_add, nI_mul, nI_add, nI_mul, nI_add]
  rw [show ((p * 9 + lc) * 8 + s) * 9 + rc = p * 648 + lc * 72 + s * 9 + rc by omega]
theorem x_slotN {m : ej_M} {p lc s rc : Nat} (hs : s < 9) (hl : lc < 10) (hr : rc < 10) (h : ¬ (s < 8 ∧ lc < 9 ∧ rc < 9)) : f_X4_slotOf (nI p) (nI s) (nI lc - 1) (nI rc - 1) m = some (-1, m) := by
  unfold f_X4_slotOf
  by_cases h1 : s = 8
  · subst h1; rw [if_pos (by decide)]
  · rw [if_neg (show ¬ nI s = (8 : Int32) from fun e => h1 (nI_inj (a := s) (b := 8) (by omega) (by decide) e))]
    by_cases h2 : lc = 9
    · subst h2; rw [if_pos (by decide)]
    · by_cases h3 : rc = 9
      · subst h3
        by_cases h4 : nI lc - 1 = (8 : Int32)
        · rw [if_pos h4]
        · rw [if_neg h4, if_pos (by decide)]
      · omega
theorem x_judged {P : Option (List (List Int32 × List Int32))} {t n p lc s rc : Nat} {m : ej_M} (hX : LX P m) (hC : CI P t n m) (ht : t < 2 ^ 29) (hp : p < 9) (hs : s < 9) (hl : lc < 10) (hr : rc < 10) :
    oj_wp (f_X4_isLawfulAt_B78 (nI n) (nI p) (nI s) (nI lc - 1) (nI rc - 1) m) (fun q => q.1 = (if tk_law P (m.1 7 s) (lw_w (m.1 7) lc) (lw_w (m.1 7) rc) (nI p) (nI n) (nI s) ≠ 0 then 1 else 0) ∧ oj_sm XC m q.2 ∧ CI P t n q.2) := by
  unfold f_X4_isLawfulAt_B78
  obtain ⟨c1, c2, c3, c4, c5⟩ := id hC
  by_cases hin : s < 8 ∧ lc < 9 ∧ rc < 9
  · obtain ⟨i1, i2, i3⟩ := hin
    have hi : p * 648 + lc * 72 + s * 9 + rc < 5832 := by omega
    rw [x_slot i1 i2 i3]
    simp only [Option.bind_some]
    rw [p_at1 ar_10 hi]
    simp only [Option.bind_some]
    obtain ⟨x, x1, x2, x3⟩ := c5 _ hi
    have k1 : (p * 648 + lc * 72 + s * 9 + rc) / 9 % 8 = s := by omega
    have k2 : (p * 648 + lc * 72 + s * 9 + rc) / 72 % 9 = lc := by omega
    have k3 : (p * 648 + lc * 72 + s * 9 + rc) % 9 = rc := by omega
    have k4 : (p * 648 + lc * 72 + s * 9 + rc) / 648 = p := by omega
    have kk : CI_k P m n (p * 648 + lc * 72 + s * 9 + rc) = tk_law P (m.1 7 s) (lw_w (m.1 7) lc) (lw_w (m.1 7) rc) (nI p) (nI n) (nI s) := by
      unfold CI_k
      rw [k1, k2, k3, k4]
    rw [x1, nb_half (by omega), c1]
    by_cases hf : x / 2 = t
    · rw [if_pos (by rw [hf]), x_173]
      refine wp_some ⟨?_, sm_refl, hC⟩
      have := x3 hf
      rw [kk] at this
      by_cases h1 : x % 2 = 1
      · rw [if_pos h1, if_pos (this.mp h1)]
      · rw [if_neg h1, if_neg (fun q => h1 (this.mpr q))]
    · rw [if_neg (fun e => hf (nI_inj (by omega) (by omega) e)), x_weightN hs]
      simp only [Option.bind_some]
      rw [x_weight (by omega)]
      simp only [Option.bind_some]
      rw [x_weight (by omega)]
      simp only [Option.bind_some]
      refine wp_bind (wp_mono (s_value hX (m.1 7 s) (lw_w (m.1 7) lc) (lw_w (m.1 7) rc) (nI p) (nI n) (nI s)) fun q hq => ?_)
      obtain ⟨v, m'⟩ := q
      obtain ⟨q1, g, q2⟩ := hq
      simp only at q1 q2 ⊢
      rw [q2, oj_row_n (by decide), c1]
      have hgo : ∀ b : Nat, (b = 1 ↔ v ≠ 0) → b < 2 → oj_wp (f_X4_isLawfulAt_B159 (nI (p * 648 + lc * 72 + s * 9 + rc)) (nI b) (nI t * 2) (oj_row m 5 g)) (fun q => q.1 = (if tk_law P (m.1 7 s) (lw_w (m.1 7) lc) (lw_w (m.1 7) rc) (nI p) (nI n) (nI s) ≠ 0 then 1 else 0) ∧ oj_sm XC m q.2 ∧ CI P t n q.2) := by
        intro b hb hb2
        unfold f_X4_isLawfulAt_B159
        rw [show nI t * 2 = nI (t * 2) from nI_mul t 2, nI_add, p_lay1 ar_10 hi]
        simp only [Option.bind_some]
        rw [x_173]
        refine wp_some ⟨?_, ?_, ?_⟩
        · rw [← q1, show (t * 2 + b) % 2 = b by omega]
          by_cases h : v = 0
          · rw [if_neg (fun e => (hb.mp e) h), if_neg (fun e => e h)]
          · rw [if_pos (hb.mpr h), if_pos h]
        · exact sm_trans (sm_row fun j hj => absurd (Or.inl rfl) hj) (sm_upd (Or.inr (Or.inl rfl)))
        · refine ⟨?_, c2, ?_, c4, fun i hi2 => ?_⟩
          · rw [oj_row_n (by decide), oj_row_n (by decide)]; exact c1
          · rw [oj_row_n (by decide), oj_row_n (by decide)]; exact c3
          · have e7 : CI_k P (oj_row (oj_row m 5 g) 10 (upd ((oj_row m 5 g).1 10) (p * 648 + lc * 72 + s * 9 + rc) (nI (t * 2 + b)))) n i = CI_k P m n i := by
              unfold CI_k
              rw [oj_row_n (by decide), oj_row_n (by decide)]
            rw [e7, r_at]
            by_cases hii : i = p * 648 + lc * 72 + s * 9 + rc
            · rw [if_pos ⟨rfl, hii⟩]
              refine ⟨t * 2 + b, rfl, by omega, fun _ => ?_⟩
              rw [hii, kk, ← q1, show (t * 2 + b) % 2 = b by omega]
              exact hb
            · rw [if_neg (fun q => hii q.2), oj_row_n (by decide)]
              exact c5 i hi2
      by_cases h : v = 0
      · rw [if_pos h]
        exact hgo 0 ⟨fun e => absurd e (by decide), fun e => absurd h e⟩ (by decide)
      · rw [if_neg h]
        exact hgo 1 ⟨fun _ => h, fun _ => rfl⟩ (by decide)
  · rw [x_slotN hs hl hr hin]
    simp only [Option.bind_some]
    rw [p_atN (by decide)]
    simp only [Option.bind_some]
    rw [show (0 : Int32) = nI 0 from rfl, nb_half (by decide), c1, if_neg (fun e => by have := nI_inj (by decide) (by omega) e; omega), x_weightN hs]
    simp only [Option.bind_some]
    rw [x_weight (by omega)]
    simp only [Option.bind_some]
    rw [x_weight (by omega)]
    simp only [Option.bind_some]
    refine wp_bind (wp_mono (s_value hX (m.1 7 s) (lw_w (m.1 7) lc) (lw_w (m.1 7) rc) (nI p) (nI n) (nI s)) fun q hq => ?_)
    obtain ⟨v, m'⟩ := q
    obtain ⟨q1, g, q2⟩ := hq
    simp only at q1 q2 ⊢
    rw [q2, oj_row_n (by decide), c1]
    have hgo : ∀ b : Nat, (b = 1 ↔ v ≠ 0) → b < 2 → oj_wp (f_X4_isLawfulAt_B159 (-1) (nI b) (nI t * 2) (oj_row m 5 g)) (fun q => q.1 = (if tk_law P (m.1 7 s) (lw_w (m.1 7) lc) (lw_w (m.1 7) rc) (nI p) (nI n) (nI s) ≠ 0 then 1 else 0) ∧ oj_sm XC m q.2 ∧ CI P t n q.2) := by
      intro b hb hb2
      unfold f_X4_isLawfulAt_B159
      rw [show nI t * 2 = nI (t * 2) from nI_mul t 2, nI_add, p_layN (by decide)]
      simp only [Option.bind_some]
      rw [x_173]
      refine wp_some ⟨?_, ?_, ?_⟩
      · rw [← q1, show (t * 2 + b) % 2 = b by omega]
        by_cases h : v = 0
        · rw [if_neg (fun e => (hb.mp e) h), if_neg (fun e => e h)]
        · rw [if_pos (hb.mpr h), if_pos h]
      · exact sm_row fun j hj => absurd (Or.inl rfl) hj
      · exact CI_congr hC (fun i _ => by rw [oj_row_n (by decide)]) (by rw [oj_row_n (by decide)]) (by rw [oj_row_n (by decide)]) (fun i _ => by rw [oj_row_n (by decide)])
    by_cases h : v = nI 0
    · rw [if_pos h]
      exact hgo 0 ⟨fun e => absurd e (by decide), fun e => absurd h e⟩ (by decide)
    · rw [if_neg h]
      exact hgo 1 ⟨fun _ => h, fun _ => rfl⟩ (by decide)
theorem LX_congr {P : Option (List (List Int32 × List Int32))} {m m' : ej_M} (h1 : m'.1 1 6 = m.1 1 6) (h4 : ∀ j, j < 121 → m'.1 4 j = m.1 4 j) (h : LX P m) : LX P m' := by
  cases P with
  | none => exact h1.trans h
  | some P =>
    obtain ⟨⟨a0, a1⟩, a2, a3, a4⟩ := h
    exact ⟨⟨a0, a1⟩, a2, h1.trans a3, fun j hj => (h4 j (by omega)).trans (a4 j hj)⟩
theorem LX_XC {P : Option (List (List Int32 × List Int32))} {m m' : ej_M} (h : oj_sm XC m m') (k : LX P m) : LX P m' := by
  refine LX_congr (h.2 1 6 ?_) (fun j _ => h.2 4 j ?_) k <;> · unfold XC; omega
theorem x_lwAt {P : Option (List (List Int32 × List Int32))} {o N n p t jf : Nat} {ρ : Nat → Nat} {m : ej_M} (hX : LX P m) (hC : CI P t jf m) (ht : t < 2 ^ 28) (ho : oj_ar o N) (hn : n ≤ N) (h9 : n < 10) (hp : p < n) (hρ : ∀ q, q < n → m.1 o q = nI (ρ q) ∧ ρ q < 9) :
    oj_wp (f_X4_isLawfulAt o (nI n) (nI p) m) (fun q => q.1 = (if lw P (m.1 7) (m.1 6 5) ρ n p then 1 else 0) ∧ oj_sm XC m q.2 ∧ ∃ t', t ≤ t' ∧ t' ≤ t + (if jf = n then 0 else 1) ∧ CI P t' n q.2) := by
  unfold f_X4_isLawfulAt
  rw [x_left hp (by omega)]
  simp only [Option.bind_some]
  rw [x_right hp (by omega)]
  simp only [Option.bind_some]
  rw [p_at1 ho (by omega), (hρ p hp).1]
  simp only [Option.bind_some]
  have hlc : lw_c ρ (pl_l (m.1 6 5) n p) < 10 := by
    unfold lw_c
    have := pl_l_le (g := m.1 6 5) hp
    split
    · omega
    · have := (hρ (pl_l (m.1 6 5) n p - 1) (by omega)).2; omega
  have hrc : lw_c ρ (pl_r (m.1 6 5) n p) < 10 := by
    unfold lw_c
    have := pl_r_le (g := m.1 6 5) hp
    split
    · omega
    · have := (hρ (pl_r (m.1 6 5) n p - 1) (by omega)).2; omega
  have e59 : oj_wp (f_X4_isLawfulAt_B59 (nI n) (nI p) (nI (ρ p)) (nI (lw_c ρ (pl_l (m.1 6 5) n p)) - 1) (nI (lw_c ρ (pl_r (m.1 6 5) n p)) - 1) m) (fun q => q.1 = (if lw P (m.1 7) (m.1 6 5) ρ n p then 1 else 0) ∧ oj_sm XC m q.2 ∧ ∃ t', t ≤ t' ∧ t' ≤ t + (if jf = n then 0 else 1) ∧ CI P t' n q.2) := by
    unfold f_X4_isLawfulAt_B59 lw
    simp only [decide_eq_true_eq]
    rw [hC.2.2.1]
    by_cases hj : n = jf
    · subst hj
      rw [if_pos rfl]
      exact wp_mono (x_judged hX hC (by omega) (by omega) (hρ p hp).2 hlc hrc) fun q hq => ⟨hq.1, hq.2.1, t, Nat.le_refl _, by omega, hq.2.2⟩
    · rw [if_neg (fun e => hj (nI_inj (by omega) (by have := hC.2.2.2.1; omega) e))]
      unfold f_X4_judgeAnew oj_pf
      simp only [Option.bind_some]
      have hC' : CI P (t + 1) n (ej_w (ej_w m 6 15 (nI n)) 6 14 ((ej_w m 6 15 (nI n)).1 6 14 + 1)) := by
        refine CI_anew hC (fun i _ => by rw [w_place (by decide), w_place (by decide)]) ?_ ?_ h9
        · rw [w_same, w_other (by omega), hC.1, nI_1]
        · rw [w_other (by omega), w_same]
      have hs : oj_sm XC m (ej_w (ej_w m 6 15 (nI n)) 6 14 ((ej_w m 6 15 (nI n)).1 6 14 + 1)) := sm_trans (sm_w (Or.inr (Or.inr ⟨rfl, Or.inr rfl⟩))) (sm_w (Or.inr (Or.inr ⟨rfl, Or.inl rfl⟩)))
      have h7 : (ej_w (ej_w m 6 15 (nI n)) 6 14 ((ej_w m 6 15 (nI n)).1 6 14 + 1)).1 7 = m.1 7 := by rw [w_place (by decide), w_place (by decide)]
      refine wp_mono (x_judged (LX_XC hs hX) hC' (by omega) (by omega) (hρ p hp).2 hlc hrc) fun q hq => ⟨?_, sm_trans hs hq.2.1, t + 1, by omega, ?_, hq.2.2⟩
      · rw [hq.1, h7]
      · rw [if_neg (fun e => hj e.symm)]; exact Nat.le_refl _
  have e41 : oj_wp (f_X4_isLawfulAt_B41 o (nI n) (nI p) (nI (pl_r (m.1 6 5) n p) - 1) (nI (ρ p)) (nI (lw_c ρ (pl_l (m.1 6 5) n p)) - 1) m) (fun q => q.1 = (if lw P (m.1 7) (m.1 6 5) ρ n p then 1 else 0) ∧ oj_sm XC m q.2 ∧ ∃ t', t ≤ t' ∧ t' ≤ t + (if jf = n then 0 else 1) ∧ CI P t' n q.2) := by
    unfold f_X4_isLawfulAt_B41
    have hle := pl_r_le (g := m.1 6 5) hp
    by_cases h0 : pl_r (m.1 6 5) n p = 0
    · rw [if_pos (by rw [h0]; decide)]
      have e : lw_c ρ (pl_r (m.1 6 5) n p) = 0 := by unfold lw_c; rw [if_pos h0]
      rw [e] at e59
      exact e59
    · rw [if_neg (fun e => h0 ((nI_cm1 (by omega)).mp e)), nI_m1 (by omega), p_at1 ho (by omega), (hρ _ (by omega)).1]
      simp only [Option.bind_some]
      have e : lw_c ρ (pl_r (m.1 6 5) n p) = ρ (pl_r (m.1 6 5) n p - 1) + 1 := by unfold lw_c; rw [if_neg h0]
      rw [e, nI_pred] at e59
      exact e59
  have hle := pl_l_le (g := m.1 6 5) hp
  by_cases h0 : pl_l (m.1 6 5) n p = 0
  · rw [if_pos (by rw [h0]; decide)]
    have e : lw_c ρ (pl_l (m.1 6 5) n p) = 0 := by unfold lw_c; rw [if_pos h0]
    rw [e] at e41
    exact e41
  · rw [if_neg (fun e => h0 ((nI_cm1 (by omega)).mp e)), nI_m1 (by omega), p_at1 ho (by omega), (hρ _ (by omega)).1]
    simp only [Option.bind_some]
    have e : lw_c ρ (pl_l (m.1 6 5) n p) = ρ (pl_l (m.1 6 5) n p - 1) + 1 := by unfold lw_c; rw [if_neg h0]
    rw [e, nI_pred] at e41
    exact e41
