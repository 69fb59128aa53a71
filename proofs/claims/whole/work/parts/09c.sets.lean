/-! sets of stones as bits -/
def sb (S i : Nat) : Bool := decide (S / 2 ^ i % 2 = 1)
def bc (S : Nat) : Nat := s_cn (sb S) 8
theorem sb_bit {S i : Nat} (hS : S < 2 ^ 31) (hi : i < 32) : ((nI S >>> (nI i &&& 31)) &&& 1) = if sb S i = true then 1 else 0 := by
  rw [nb_shr hS hi, nb_low]
  unfold sb
  generalize S / 2 ^ i = z
  by_cases e : z % 2 = 1
  · rw [e, if_pos (decide_eq_true rfl)]; rfl
  · rw [if_neg (fun q => e (of_decide_eq_true q)), show z % 2 = 0 by omega]; rfl
theorem sb_1 {S i : Nat} (hS : S < 2 ^ 31) (hi : i < 32) : ((nI S >>> (nI i &&& 31)) &&& 1) = 1 ↔ sb S i = true := by
  rw [sb_bit hS hi]
  by_cases e : sb S i = true
  · rw [if_pos e]; exact ⟨fun _ => e, fun _ => rfl⟩
  · rw [if_neg e]; exact ⟨fun q => absurd q (by decide), fun q => absurd q e⟩
theorem sb_0 {S i : Nat} (hS : S < 2 ^ 31) (hi : i < 32) : ((nI S >>> (nI i &&& 31)) &&& 1) = 0 ↔ ¬ sb S i = true := by
  rw [sb_bit hS hi]
  by_cases e : sb S i = true
  · rw [if_pos e]; exact ⟨fun q => absurd q (by decide), fun q => absurd e q⟩
  · rw [if_neg e]; exact ⟨fun _ => e, fun _ => rfl⟩
theorem sb_hi {S i : Nat} (h : S < 2 ^ i) : sb S i = false := by
  unfold sb
  rw [Nat.div_eq_of_lt h]
  rfl
theorem pw_le {a c : Nat} (h : a ≤ c) : 2 ^ a ≤ 2 ^ c := Nat.pow_le_pow_right (by decide) h
theorem pw_8 {n : Nat} (h : n ≤ 8) : 2 ^ n ≤ 256 := pw_le h
theorem sl_pow : ∀ n, n < 9 → (1 : Int32) <<< (nI n &&& 31) = nI (2 ^ n) := by decide
theorem s_cn_stop {kp : Nat → Bool} {N : Nat} : ∀ M, N ≤ M → (∀ q, N ≤ q → q < M → kp q = false) → s_cn kp M = s_cn kp N := by
  intro M
  induction M with
  | zero => intro h _; rw [show N = 0 by omega]
  | succ M ih =>
    intro h hk
    by_cases e : N = M + 1
    · rw [e]
    · rw [s_cn_s0 (by rw [hk M (by omega) (by omega)]; decide)]
      exact ih (by omega) fun q h1 h2 => hk q h1 (by omega)
theorem s_rw_s0 {kp : Nat → Bool} {ρ : Nat → Nat} {i q : Nat} (h : ¬ (kp i = true ∧ q = s_cn kp i)) : s_rw kp ρ (i + 1) q = s_rw kp ρ i q := if_neg h
theorem s_rw_s1 {kp : Nat → Bool} {ρ : Nat → Nat} {i : Nat} (h : kp i = true) : s_rw kp ρ (i + 1) (s_cn kp i) = ρ i := if_pos ⟨h, rfl⟩
theorem s_rw_stop {kp : Nat → Bool} {ρ : Nat → Nat} {N q : Nat} : ∀ M, N ≤ M → (∀ q, N ≤ q → q < M → kp q = false) → s_rw kp ρ M q = s_rw kp ρ N q := by
  intro M
  induction M with
  | zero => intro h _; rw [show N = 0 by omega]
  | succ M ih =>
    intro h hk
    by_cases e : N = M + 1
    · rw [e]
    · rw [s_rw_s0 (fun z => by rw [hk M (by omega) (by omega)] at z; exact absurd z.1 (by decide))]
      exact ih (by omega) fun q h1 h2 => hk q h1 (by omega)
theorem s_cn_mono {kp : Nat → Bool} {i j : Nat} (h : i ≤ j) : s_cn kp i ≤ s_cn kp j := by
  induction j with
  | zero => rw [show i = 0 by omega]; exact Nat.le_refl _
  | succ j ih =>
    by_cases e : i = j + 1
    · rw [e]; exact Nat.le_refl _
    · have := ih (by omega)
      by_cases k : kp j = true
      · rw [s_cn_s1 k]; omega
      · rw [s_cn_s0 k]; omega
/-- what was kept stays where it is -/
theorem s_rw_keep {kp : Nat → Bool} {ρ : Nat → Nat} {i q : Nat} (hq : q < s_cn kp i) : ∀ j, i ≤ j → s_rw kp ρ j q = s_rw kp ρ i q := by
  intro j
  induction j with
  | zero => intro h; rw [show i = 0 by omega]
  | succ j ih =>
    intro h
    by_cases e : i = j + 1
    · rw [e]
    · have := s_cn_mono (kp := kp) (show i ≤ j by omega)
      rw [s_rw_s0 (fun z => by have := z.2; omega)]
      exact ih (by omega)
theorem sb_above {S n : Nat} (h : S < 2 ^ n) : ∀ q, n ≤ q → q < 8 → sb S q = false := fun q h1 _ => sb_hi (Nat.lt_of_lt_of_le h (pw_le h1))
theorem bc_n {S n : Nat} (hn : n ≤ 8) (h : S < 2 ^ n) : bc S = s_cn (sb S) n := s_cn_stop 8 hn (sb_above h)
theorem bc_le {S n : Nat} (hn : n ≤ 8) (h : S < 2 ^ n) : bc S ≤ n := by rw [bc_n hn h]; exact s_cn_le _ _
theorem bc_8 (S : Nat) : bc S ≤ 8 := s_cn_le _ _
theorem x_setY {m : ej_M} {n S : Nat} (hm : m.1 6 2 = nI n) (hn : n ≤ 8) (h : S < 2 ^ n) : f_X4_isSet (nI S) m = some (1, m) := by
  have := pw_8 hn
  unfold f_X4_isSet; rw [hm, sl_pow n (by omega)]; exact x_rangeY h (by omega)
theorem x_setN {m : ej_M} {n : Nat} {v : Int32} (hm : m.1 6 2 = nI n) (hn : n ≤ 8) (h : ∀ i, i < 2 ^ n → v ≠ nI i) : f_X4_isSet v m = some (0, m) := by
  have := pw_8 hn
  unfold f_X4_isSet; rw [hm, sl_pow n (by omega)]; exact x_rangeN (by omega) h
theorem m_setY {m : ej_M} {n S : Nat} (hm : m.1 41 1 = nI n) (hn : n ≤ 8) (h : S < 2 ^ n) : f_X11_isSet (nI S) m = some (1, m) := by
  have := pw_8 hn
  unfold f_X11_isSet; rw [hm, sl_pow n (by omega), m_inY h (by omega), o_bs]; exact rz_1 m
theorem m_setN {m : ej_M} {n : Nat} {v : Int32} (hm : m.1 41 1 = nI n) (hn : n ≤ 8) (h : ∀ i, i < 2 ^ n → v ≠ nI i) : f_X11_isSet v m = some (0, m) := by
  have := pw_8 hn
  unfold f_X11_isSet; rw [hm, sl_pow n (by omega), m_inN (by omega) h, o_bs]; exact rz_0 m
def bcv (v : Int32) : Int32 := ((f_J6_bitCount_0f7a4 v (fun _ _ => 0, fun _ _ => 0)).getD (0, (fun _ _ => 0, fun _ _ => 0))).1
theorem bc_dec : ∀ S, S < 256 → bcv (nI S) = nI (bc S) := by decide +kernel
theorem x_bits {S : Nat} (h : S < 256) (m : ej_M) : f_J6_bitCount_0f7a4 (nI S) m = some (nI (bc S), m) := by
  rw [← bc_dec S h]
  rfl
def bl : Nat → Int32 → Int32 → Option Int32
  | 0, _, _ => none
  | f + 1, c, v => if v = 0 then some c else bl f (c + 1) (v &&& (v - 1))
theorem bl_dec : ∀ S, S < 256 → bl 9 0 (nI S) = some (nI (bc S)) := by decide +kernel
theorem m_bitsL {m : ej_M} {r : Int32} : ∀ f c v K, bl f c v = some r → oj_loop (fun q : (Int32 × Int32 × ej_M) => f_X11_bitsOf_L4b q.1 q.2.1 q.2.2) (f + K) (c, v, m) = some (r, m) := by
  intro f
  induction f with
  | zero => intro c v K h; cases h
  | succ f ih =>
    intro c v K h
    unfold bl at h
    rw [show f + 1 + K = f + K + 1 by omega]
    refine wp_get (wp_loop1 ?_)
    simp only
    unfold f_X11_bitsOf_L4b
    by_cases e : v = 0
    · rw [if_pos e] at h ⊢
      obtain rfl := Option.some.inj h
      exact wp_inr rfl
    · rw [if_neg e] at h ⊢
      exact wp_inl (wp_eq (ih _ _ K h) rfl)
theorem m_bits {S : Nat} (h : S < 256) (m : ej_M) : f_X11_bitsOf (nI S) m = some (nI (bc S), m) := by
  unfold f_X11_bitsOf f_X11_bitsOf_L4
  exact m_bitsL 9 0 (nI S) (oj_FU - 9) (bl_dec S h)
theorem nb_andx (s : Nat) (x : Int32) : ∃ t, t ≤ s ∧ nI s &&& x = nI t := by
  refine ⟨s &&& x.toBitVec.toNat, Nat.and_le_left, ?_⟩
  rw [← nb_and]
  congr 1
  apply Int32.toBitVec_inj.1
  show x.toBitVec = BitVec.ofNat 32 x.toBitVec.toNat
  rw [BitVec.ofNat_toNat, BitVec.setWidth_eq]
-- stones set at the ends
def zb (way : Nat) : Nat → Nat := s_cn (fun j => decide (1 ≤ j) && !(sb way j))
def ob (way : Nat) : Nat → Nat := s_cn (fun j => decide (1 ≤ j) && sb way j)
theorem zb_1 {way i : Nat} (hi : 1 ≤ i) (h : ¬ sb way i = true) : zb way (i + 1) = zb way i + 1 := s_cn_s1 (by simp [hi, h])
theorem zb_0 {way i : Nat} (h : i = 0 ∨ sb way i = true) : zb way (i + 1) = zb way i := s_cn_s0 (by rcases h with h | h <;> simp [h])
theorem ob_1 {way i : Nat} (hi : 1 ≤ i) (h : sb way i = true) : ob way (i + 1) = ob way i + 1 := s_cn_s1 (by simp [hi, h])
theorem ob_0 {way i : Nat} (h : i = 0 ∨ ¬ sb way i = true) : ob way (i + 1) = ob way i := s_cn_s0 (by rcases h with h | h <;> simp [h])
theorem zo_sum (way : Nat) : ∀ i, zb way (i + 1) + ob way (i + 1) = i := by
  intro i
  induction i with
  | zero => rfl
  | succ i ih =>
    by_cases h : sb way (i + 1) = true
    · rw [zb_0 (Or.inr h), ob_1 (by omega) h]; omega
    · rw [zb_1 (by omega) h, ob_0 (Or.inr h)]; omega
theorem ob_bc {way n : Nat} (hn : n ≤ 8) (hw : way < 2 ^ n) (he : way % 2 = 0) : bc way = ob way n := by
  rw [bc_n hn hw]
  have h0 : sb way 0 = false := by
    unfold sb
    rw [Nat.pow_zero, Nat.div_one, he]
    rfl
  have : ∀ i, s_cn (sb way) i = ob way i := fun i => by
    induction i with
    | zero => rfl
    | succ i ih =>
      by_cases h : sb way i = true
      · have hi : 1 ≤ i := by
          by_cases e : i = 0
          · rw [e, h0] at h; cases h
          · omega
        rw [s_cn_s1 h, ob_1 hi h, ih]
      · rw [s_cn_s0 h, ob_0 (Or.inr h), ih]
  exact this n
def ep (way z i : Nat) : Nat := if i = 0 then z else if sb way i = true then z + ob way i + 1 else z - zb way i - 1
def er (st : Nat → Nat) (way z : Nat) : Nat → Nat → Nat
  | 0, _ => 0
  | i + 1, p => if p = ep way z i then st i else er st way z i p
theorem er_lt {st : Nat → Nat} {way n N : Nat} (hst : ∀ j, j < n → st j < N) : ∀ i, i ≤ n → 1 ≤ i → ∀ p, zb way n - zb way i ≤ p → p ≤ zb way n + ob way i → er st way (zb way n) i p < N := by
  intro i
  induction i with
  | zero => intro _ h; omega
  | succ i ih =>
    intro hi _ p h1 h2
    unfold er
    by_cases e : p = ep way (zb way n) i
    · rw [if_pos e]; exact hst i (by omega)
    · rw [if_neg e]
      unfold ep at e
      by_cases e0 : i = 0
      · subst e0
        rw [if_pos rfl] at e
        have : zb way (0 + 1) = 0 := rfl
        have : ob way (0 + 1) = 0 := rfl
        omega
      · rw [if_neg e0] at e
        by_cases e1 : sb way i = true
        · rw [if_pos e1] at e
          rw [zb_0 (Or.inr e1)] at h1
          rw [ob_1 (by omega) e1] at h2
          exact ih (by omega) (by omega) p h1 (by omega)
        · rw [if_neg e1] at e
          rw [zb_1 (by omega) e1] at h1
          rw [ob_0 (Or.inr e1)] at h2
          have hm : zb way (i + 1) ≤ zb way n := s_cn_mono hi
          rw [zb_1 (by omega) e1] at hm
          exact ih (by omega) (by omega) p (by omega) h2
theorem x_setEnds {n way : Nat} {st : Nat → Nat} {m : ej_M} (hn1 : 1 ≤ n) (hn : n ≤ 8) (hw : way < 2 ^ n) (he : way % 2 = 0) (hst : ∀ j, j < n → m.1 23 j = nI (st j)) :
    oj_wp (f_X7_setAtEnds (nI n) (nI way) m) fun q => oj_sm (fun a _ => a = 24) m q.2 ∧ ∀ p, p < n → q.2.1 24 p = nI (er st way (zb way n) n p) := by
  have h256 := pw_8 hn
  have hzo := zo_sum way (n - 1)
  rw [show n - 1 + 1 = n by omega] at hzo
  unfold f_X7_setAtEnds
  rw [x_bits (by omega), o_bs]
  simp only
  rw [show f_X10_at 23 0 m = some (m.1 23 0, m) from p_at1 (k := 0) ar_23 (by decide) m, o_bs]
  simp only
  rw [hst 0 (by omega), nI_m1 hn1, ob_bc hn hw he, nI_sub (by omega), show n - 1 - ob way n = zb way n by omega, p_lay1 ar_24 (by omega), o_bs]
  simp only
  unfold f_X7_setAtEnds_L31
  refine wp_loop (fun i (s : Int32 × Int32 × Int32 × ej_M) => 1 ≤ i ∧ s.1 = nI (zb way n - zb way i) ∧ s.2.1 = nI (zb way n + ob way i) ∧ s.2.2.1 = nI i ∧ oj_sm (fun a _ => a = 24) m s.2.2.2 ∧ ∀ p, zb way n - zb way i ≤ p → p ≤ zb way n + ob way i → s.2.2.2.1 24 p = nI (er st way (zb way n) i p)) n (by unfold oj_FU; omega) (fun i s hi hI => ?_) (fun s hI => ?_) (i0 := 1) hn1 ⟨Nat.le_refl _, ?_, ?_, rfl, sm_a fun j => rfl, fun p h1 h2 => ?_⟩
  · obtain ⟨a, a', a'', m'⟩ := s
    obtain ⟨hi1, rfl, rfl, rfl, i1, i2⟩ := hI
    simp only at i1 i2 ⊢
    unfold f_X7_setAtEnds_L31b
    rw [if_neg (fun q => by have := (nI_leI (by omega) (by omega)).mp q; omega)]
    have hm : zb way (i + 1) ≤ zb way n := s_cn_mono (by omega)
    have ho : ob way (i + 1) ≤ ob way n := s_cn_mono (by omega)
    by_cases e : sb way i = true
    · rw [ob_1 hi1 e] at ho
      rw [zb_0 (Or.inr e)] at hm
      rw [if_pos ((sb_1 (by omega) (by omega)).mpr e), p_at1 ar_23 (by omega), o_bs, i1.2 23 i (by omega), hst i hi]
      simp only
      rw [nI_1, p_lay1 ar_24 (by omega), o_bs, nI_1]
      refine wp_inl ⟨by omega, by rw [zb_0 (Or.inr e)], by rw [ob_1 hi1 e]; rfl, rfl, sm_trans i1 (sm_a fun j => rfl), fun p h1 h2 => ?_⟩
      rw [zb_0 (Or.inr e)] at h1
      rw [ob_1 hi1 e] at h2
      simp only
      rw [oj_row_s]
      unfold upd er ep
      rw [if_neg (show ¬ i = 0 by omega), if_pos e]
      by_cases e2 : p = zb way n + ob way i + 1
      · rw [if_pos e2, if_pos e2]
      · rw [if_neg e2, if_neg e2]; exact i2 p h1 (by omega)
    · rw [zb_1 hi1 e] at hm
      rw [if_neg (fun q => e ((sb_1 (by omega) (by omega)).mp q)), p_at1 ar_23 (by omega), o_bs, i1.2 23 i (by omega), hst i hi]
      simp only
      rw [nI_am1 (by omega), p_lay1 ar_24 (by omega), o_bs, nI_1]
      refine wp_inl ⟨by omega, by rw [zb_1 hi1 e]; simp only; rw [Nat.sub_sub], by rw [ob_0 (Or.inr e)], rfl, sm_trans i1 (sm_a fun j => rfl), fun p h1 h2 => ?_⟩
      rw [zb_1 hi1 e] at h1
      rw [ob_0 (Or.inr e)] at h2
      simp only
      rw [oj_row_s]
      unfold upd er ep
      rw [if_neg (show ¬ i = 0 by omega), if_neg e]
      by_cases e2 : p = zb way n - zb way i - 1
      · rw [if_pos e2, if_pos e2]
      · rw [if_neg e2, if_neg e2]; exact i2 p (by omega) h2
  · obtain ⟨a, a', a'', m'⟩ := s
    obtain ⟨hi1, rfl, rfl, rfl, i1, i2⟩ := hI
    simp only at i1 i2 ⊢
    unfold f_X7_setAtEnds_L31b
    rw [if_pos (Int32.le_refl _)]
    exact wp_inr ⟨i1, fun p hp => i2 p (by omega) (by omega)⟩
  · simp only
    rw [show zb way 1 = 0 from rfl, Nat.sub_zero]
  · simp only
    rw [show ob way 1 = 0 from rfl, Nat.add_zero]
  · rw [show zb way 1 = 0 from rfl, Nat.sub_zero] at h1
    rw [show ob way 1 = 0 from rfl, Nat.add_zero] at h2
    simp only
    rw [oj_row_s, show p = zb way n by omega]
    unfold upd er ep
    rw [if_pos rfl, if_pos rfl, if_pos rfl]
