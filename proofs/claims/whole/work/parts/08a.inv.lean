/-! what holds between two calls -/
-- the stones, the row, the ring, what was led, the law
def IA (n k : Nat) (ρ : Nat → Nat) (P : Option (List (List Int32 × List Int32))) (m : ej_M) : Prop :=
  n ≤ 8 ∧ k ≤ n ∧ m.1 6 2 = nI n ∧ m.1 41 1 = nI n ∧ m.1 6 4 = nI k ∧ m.1 41 4 = nI k
  ∧ (∀ i, i < n → m.1 42 i = m.1 7 i ∧ ∃ w, 1 ≤ w ∧ w ≤ 99 ∧ m.1 7 i = nI w)
  ∧ (∀ p, p < k → m.1 8 p = nI (ρ p) ∧ m.1 43 p = nI (ρ p) ∧ ρ p < n)
  ∧ (∀ p q, p < k → q < k → ρ p = ρ q → p = q)
  ∧ m.1 41 5 = m.1 6 5 ∧ (m.1 6 5 = 0 ∨ m.1 6 5 = 1) ∧ m.1 41 6 = m.1 6 6 ∧ m.1 41 7 = m.1 6 7 ∧ LX P m ∧ LM P m
def sIA (a j : Nat) : Prop := (a = 6 ∧ (j = 2 ∨ j = 4 ∨ j = 5 ∨ j = 6 ∨ j = 7)) ∨ (a = 41 ∧ (j = 1 ∨ j = 4 ∨ j = 5 ∨ j = 6 ∨ j = 7 ∨ j = 27)) ∨ ((a = 7 ∨ a = 42) ∧ j < 8) ∨ a = 8 ∨ a = 43 ∨ (a = 1 ∧ j = 6) ∨ a = 4 ∨ a = 49 ∨ a = 50 ∨ a = 51 ∨ a = 52 ∨ a = 53
theorem IA_fr {n k : Nat} {ρ : Nat → Nat} {P : Option (List (List Int32 × List Int32))} {m m' : ej_M} (hm : ∀ a j, sIA a j → m'.1 a j = m.1 a j) (h : IA n k ρ P m) : IA n k ρ P m' := by
  obtain ⟨h1, h2, h3, h4, h5, h6, h7, h8, h9, h10, h11, h12, h13, h14, h15⟩ := h
  have f : ∀ a, (a = 8 ∨ a = 43 ∨ a = 4 ∨ a = 49 ∨ a = 50 ∨ a = 51 ∨ a = 52 ∨ a = 53) → m'.1 a = m.1 a := fun a ha => funext fun j => hm a j (by unfold sIA; omega)
  refine ⟨h1, h2, (hm 6 2 (by unfold sIA; omega)).trans h3, (hm 41 1 (by unfold sIA; omega)).trans h4, (hm 6 4 (by unfold sIA; omega)).trans h5, (hm 41 4 (by unfold sIA; omega)).trans h6, fun i hi => ?_, fun p hp => ?_, h9, ?_, ?_, ?_, ?_, LX_congr (hm 1 6 (by unfold sIA; omega)) (fun j _ => hm 4 j (by unfold sIA; omega)) h14, LM_congr (hm 41 27 (by unfold sIA; omega)) (f 51 (by omega)) (f 49 (by omega)) (f 50 (by omega)) (f 52 (by omega)) (f 53 (by omega)) h15⟩
  · rw [hm 42 i (by unfold sIA; omega), hm 7 i (by unfold sIA; omega)]; exact h7 i hi
  · rw [f 8 (by omega), f 43 (by omega)]; exact h8 p hp
  · rw [hm 41 5 (by unfold sIA; omega), hm 6 5 (by unfold sIA; omega)]; exact h10
  · rw [hm 6 5 (by unfold sIA; omega)]; exact h11
  · rw [hm 41 6 (by unfold sIA; omega), hm 6 6 (by unfold sIA; omega)]; exact h12
  · rw [hm 41 7 (by unfold sIA; omega), hm 6 7 (by unfold sIA; omega)]; exact h13
-- the image
def IB (n : Nat) (m : ej_M) : Prop := m.1 41 38 = m.1 6 8 ∧ (m.1 6 8 = 0 ∨ (m.1 6 8 = 1 ∧ ∃ (k : Nat) (ρ : Nat → Nat), k ≤ n ∧ m.1 6 10 = nI k ∧ m.1 41 39 = nI k ∧ (∀ p, p < k → m.1 9 p = nI (ρ p) ∧ m.1 63 p = nI (ρ p) ∧ ρ p < n) ∧ (∀ p q, p < k → q < k → ρ p = ρ q → p = q) ∧ m.1 41 40 = m.1 6 11 ∧ m.1 41 41 = m.1 6 12))
def sIB (a j : Nat) : Prop := (a = 6 ∧ (j = 8 ∨ j = 10 ∨ j = 11 ∨ j = 12)) ∨ (a = 41 ∧ (j = 38 ∨ j = 39 ∨ j = 40 ∨ j = 41)) ∨ a = 9 ∨ a = 63
theorem IB_fr {n n' : Nat} {m m' : ej_M} (hn : n ≤ n') (hm : ∀ a j, sIB a j → m'.1 a j = m.1 a j) (h : IB n m) : IB n' m' := by
  obtain ⟨h1, h2⟩ := h
  unfold IB
  rw [hm 41 38 (by unfold sIB; omega), hm 6 8 (by unfold sIB; omega), hm 6 10 (by unfold sIB; omega), hm 6 11 (by unfold sIB; omega), hm 6 12 (by unfold sIB; omega), hm 41 39 (by unfold sIB; omega), hm 41 40 (by unfold sIB; omega), hm 41 41 (by unfold sIB; omega)]
  refine ⟨h1, h2.imp id ?_⟩
  rintro ⟨a, k, ρ, a1, a2, a3, a4, a5, a6, a7⟩
  exact ⟨a, k, ρ, by omega, a2, a3, fun p hp => by rw [hm 9 p (by unfold sIB; omega), hm 63 p (by unfold sIB; omega)]; have := a4 p hp; exact ⟨this.1, this.2.1, by omega⟩, a5, a6, a7⟩
-- the changes
def IC (n : Nat) (m : ej_M) : Prop := ∃ d u, d + u ≤ 40 ∧ m.1 11 4 = nI d ∧ m.1 41 8 = nI d ∧ m.1 11 5 = nI (d + u) ∧ m.1 41 9 = nI u
  ∧ ∀ i, i < d + u → m.1 46 i = m.1 13 i ∧ m.1 47 i = m.1 14 i
    ∧ ((m.1 12 i = -1 ∧ m.1 44 i = 1 ∧ m.1 45 i = 0 ∧ (m.1 13 i = 0 ∨ m.1 13 i = 1) ∧ (m.1 14 i = 0 ∨ m.1 14 i = 1))
      ∨ ∃ s v w, s < n ∧ m.1 12 i = nI s ∧ m.1 44 i = 0 ∧ m.1 45 i = nI s ∧ m.1 13 i = nI v ∧ 1 ≤ v ∧ v ≤ 99 ∧ m.1 14 i = nI w ∧ 1 ≤ w ∧ w ≤ 99)
def sIC (a j : Nat) : Prop := (a = 11 ∧ (j = 4 ∨ j = 5)) ∨ (a = 41 ∧ (j = 8 ∨ j = 9)) ∨ a = 12 ∨ a = 13 ∨ a = 14 ∨ a = 44 ∨ a = 45 ∨ a = 46 ∨ a = 47
theorem IC_fr {n n' : Nat} {m m' : ej_M} (hn : n ≤ n') (hm : ∀ a j, sIC a j → m'.1 a j = m.1 a j) (h : IC n m) : IC n' m' := by
  obtain ⟨d, u, h1, h2, h3, h4, h5, h6⟩ := h
  refine ⟨d, u, h1, (hm 11 4 (by unfold sIC; omega)).trans h2, (hm 41 8 (by unfold sIC; omega)).trans h3, (hm 11 5 (by unfold sIC; omega)).trans h4, (hm 41 9 (by unfold sIC; omega)).trans h5, fun i hi => ?_⟩
  rw [hm 46 i (by unfold sIC; omega), hm 13 i (by unfold sIC; omega), hm 47 i (by unfold sIC; omega), hm 14 i (by unfold sIC; omega), hm 12 i (by unfold sIC; omega), hm 44 i (by unfold sIC; omega), hm 45 i (by unfold sIC; omega)]
  obtain ⟨a1, a2, a3⟩ := h6 i hi
  refine ⟨a1, a2, a3.imp id ?_⟩
  rintro ⟨s, v, w, b1, b2⟩
  exact ⟨s, v, w, by omega, b2⟩
-- the tape
def ID (m : ej_M) : Prop := ∃ l, l ≤ 120 ∧ m.1 1 1 = nI l ∧ m.1 41 15 = nI l ∧ ∀ i, i < l → ∃ c, c < 256 ∧ m.1 2 i = nI c ∧ m.1 48 i = (nI c).toInt8.toInt32
def sID (a j : Nat) : Prop := (a = 1 ∧ j = 1) ∨ (a = 41 ∧ j = 15) ∨ a = 2 ∨ a = 48
theorem ID_fr {m m' : ej_M} (hm : ∀ a j, sID a j → m'.1 a j = m.1 a j) (h : ID m) : ID m' := by
  obtain ⟨l, h1, h2, h3, h4⟩ := h
  refine ⟨l, h1, (hm 1 1 (by unfold sID; omega)).trans h2, (hm 41 15 (by unfold sID; omega)).trans h3, fun i hi => ?_⟩
  rw [hm 2 i (by unfold sID; omega), hm 48 i (by unfold sID; omega)]
  exact h4 i hi
-- bodies, the trace, shelves
def IE (nb : Nat) (m : ej_M) : Prop := nb ≤ 50 ∧ m.1 34 1 = nI nb ∧ m.1 41 43 = nI nb ∧ (∀ i, i < nb → m.1 64 i = m.1 35 i ∧ ∃ t, t < 8 ∧ m.1 35 i = nI t) ∧ ∃ r, r ≤ 100 ∧ m.1 34 3 = nI r ∧ m.1 41 45 = nI r ∧ ∀ i, i < r → i < 24 → m.1 65 i = m.1 36 i
def sIE (a j : Nat) : Prop := (a = 34 ∧ (j = 1 ∨ j = 3)) ∨ (a = 41 ∧ (j = 43 ∨ j = 45)) ∨ a = 35 ∨ a = 36 ∨ a = 64 ∨ a = 65
theorem IE_fr {nb : Nat} {m m' : ej_M} (hm : ∀ a j, sIE a j → m'.1 a j = m.1 a j) (h : IE nb m) : IE nb m' := by
  obtain ⟨h1, h2, h3, h4, r, h5, h6, h7, h8⟩ := h
  refine ⟨h1, (hm 34 1 (by unfold sIE; omega)).trans h2, (hm 41 43 (by unfold sIE; omega)).trans h3, fun i hi => ?_, r, h5, (hm 34 3 (by unfold sIE; omega)).trans h6, (hm 41 45 (by unfold sIE; omega)).trans h7, fun i hi h24 => ?_⟩
  · rw [hm 64 i (by unfold sIE; omega), hm 35 i (by unfold sIE; omega)]
    exact h4 i hi
  · rw [hm 65 i (by unfold sIE; omega), hm 36 i (by unfold sIE; omega)]
    exact h8 i hi h24
def IFs (nb s : Nat) (m : ej_M) : Prop := (m.1 38 s = -2 ∧ m.1 66 s = -1) ∨ (∃ b, b < nb ∧ m.1 38 s = -1 ∧ m.1 39 s = nI b ∧ m.1 66 s = nI b) ∨ ∃ t l, t < 5 ∧ l ≤ 60 ∧ m.1 38 s = nI t ∧ m.1 66 s = -2 - nI t ∧ m.1 39 s = nI l ∧ m.1 67 s = nI l ∧ ∀ i, i < 60 → m.2 68 (60 * s + i) = m.2 40 (60 * s + i) ∧ (t = 0 → Int32.toInt64 (Int64.toInt32 (m.2 40 (60 * s + i))) = m.2 40 (60 * s + i))
def IF (nb : Nat) (m : ej_M) : Prop := ∀ s, s < 6 → IFs nb s m
def sIF (a _j : Nat) : Prop := a = 38 ∨ a = 39 ∨ a = 66 ∨ a = 67
theorem IF_fr {nb nb' : Nat} {m m' : ej_M} (hn : nb ≤ nb') (hm : ∀ a j, sIF a j → m'.1 a j = m.1 a j) (h2 : m'.2 = m.2) (h : IF nb m) : IF nb' m' := by
  intro s hs
  unfold IFs
  rw [hm 38 s (by unfold sIF; omega), hm 39 s (by unfold sIF; omega), hm 66 s (by unfold sIF; omega), hm 67 s (by unfold sIF; omega), h2]
  rcases h s hs with a | ⟨b, a1, a2⟩ | a
  · exact Or.inl a
  · exact Or.inr (Or.inl ⟨b, by omega, a2⟩)
  · exact Or.inr (Or.inr a)
-- what nobody writes
def IG (L : Nat) (xs : Nat → Int32) (m : ej_M) : Prop := ∀ a, 1000 ≤ a → m.1 a = im_I L xs a
theorem IG_fr {L : Nat} {xs : Nat → Int32} {m m' : ej_M} (hm : ∀ a j, 1000 ≤ a → m'.1 a j = m.1 a j) (h : IG L xs m) : IG L xs m' := fun a ha => (funext fun j => hm a j ha).trans (h a ha)
def IV (L : Nat) (xs : Nat → Int32) (n k : Nat) (ρ : Nat → Nat) (P : Option (List (List Int32 × List Int32))) (nb : Nat) (m : ej_M) : Prop := IA n k ρ P m ∧ IB n m ∧ IC n m ∧ ID m ∧ IE nb m ∧ IF nb m ∧ IG L xs m
def Inv (L : Nat) (xs : Nat → Int32) (b : Nat) (m : ej_M) : Prop := ∃ n k ρ P nb, IV L xs n k ρ P nb m ∧ CB P b m
-- what a call may leave anywhere: the class's scratch, the reference's
def SX (a j : Nat) : Prop := a = 3 ∨ a = 5 ∨ a = 10 ∨ (a = 6 ∧ (j = 14 ∨ j = 15)) ∨ (a = 7 ∧ 8 ≤ j) ∨ (a = 1 ∧ (j = 2 ∨ j = 4)) ∨ (15 ≤ a ∧ a ≤ 33) ∨ (a = 34 ∧ j = 4)
def SM (a j : Nat) : Prop := (a = 41 ∧ (j = 16 ∨ j = 17 ∨ j = 18 ∨ j = 19 ∨ j = 29 ∨ j = 31 ∨ j = 32)) ∨ (54 ≤ a ∧ a ≤ 62) ∨ (a = 42 ∧ 8 ≤ j) ∨ a = 69
def SQ (a j : Nat) : Prop := SX a j ∨ SM a j
theorem IV_sm {L : Nat} {xs : Nat → Int32} {n k : Nat} {ρ : Nat → Nat} {P : Option (List (List Int32 × List Int32))} {nb : Nat} {m m' : ej_M} (hs : oj_sm SQ m m') (h : IV L xs n k ρ P nb m) : IV L xs n k ρ P nb m' := by
  obtain ⟨h1, h2, h3, h4, h5, h6, h7⟩ := h
  refine ⟨IA_fr (fun a j q => hs.2 a j ?_) h1, IB_fr (Nat.le_refl _) (fun a j q => hs.2 a j ?_) h2, IC_fr (Nat.le_refl _) (fun a j q => hs.2 a j ?_) h3, ID_fr (fun a j q => hs.2 a j ?_) h4, IE_fr (fun a j q => hs.2 a j ?_) h5, IF_fr (Nat.le_refl _) (fun a j q => hs.2 a j ?_) hs.1 h6, IG_fr (fun a j q => hs.2 a j ?_) h7⟩
  · unfold sIA at q; unfold SQ SX SM; omega
  · unfold sIB at q; unfold SQ SX SM; omega
  · unfold sIC at q; unfold SQ SX SM; omega
  · unfold sID at q; unfold SQ SX SM; omega
  · unfold sIE at q; unfold SQ SX SM; omega
  · unfold sIF at q; unfold SQ SX SM; omega
  · unfold SQ SX SM; omega
theorem XC_SX {a j : Nat} (h : XC a j) : SX a j := by unfold XC at h; unfold SX; omega
theorem MC_SM {a j : Nat} (h : MC a j) : SM a j := by unfold MC at h; unfold SM; omega
/-- the class's verdicts are none of the reference's business -/
theorem CB_SM {P : Option (List (List Int32 × List Int32))} {b : Nat} {m m' : ej_M} (hs : oj_sm SM m m') (h : CB P b m) : CB P b m' := by
  refine CB_congr h (fun i _ => hs.2 10 i ?_) (hs.2 6 14 ?_) (hs.2 6 15 ?_) (fun i _ => hs.2 7 i ?_) <;> · unfold SM; omega
def oST : Nat := 2 ^ 18
/-- one call, on both sides -/
def OP (fx fm : ej_M → Option (Int32 × ej_M)) : Prop := ∀ (L : Nat) (xs : Nat → Int32) (b : Nat) (m : ej_M), Inv L xs b m → b + oST < 2 ^ 28 → oj_wp (fx m) fun q => (q.2.1 4000 = m.1 4000 ∧ q.2.1 4001 = m.1 4001) ∧ oj_wp (fm q.2) fun r => q.1 = r.1 ∧ Inv L xs (b + oST) r.2
/-- one call that only asks -/
theorem OP_ask {fx fm : ej_M → Option (Int32 × ej_M)} (h : ∀ (L : Nat) (xs : Nat → Int32) (n k : Nat) (ρ : Nat → Nat) (P : Option (List (List Int32 × List Int32))) (nb b : Nat) (m : ej_M), IV L xs n k ρ P nb m → CB P b m → b + oST < 2 ^ 28 →
    oj_wp (fx m) fun q => oj_sm SX m q.2 ∧ CB P (b + oST) q.2 ∧ (∀ m', IV L xs n k ρ P nb m' → oj_sm SX m m' → oj_wp (fm m') fun r => q.1 = r.1 ∧ oj_sm SM m' r.2)) : OP fx fm := by
  intro L xs b m ⟨n, k, ρ, P, nb, hI, hC⟩ hb
  refine wp_mono (h L xs n k ρ P nb b m hI hC hb) fun q hq => ?_
  obtain ⟨q1, q2, q3⟩ := hq
  have hI' := IV_sm (sm_mono q1 fun a j x => Or.inl x) hI
  refine ⟨⟨funext fun j => q1.2 4000 j (by unfold SX; omega), funext fun j => q1.2 4001 j (by unfold SX; omega)⟩, wp_mono (q3 q.2 hI' q1) fun r hr => ?_⟩
  exact ⟨hr.1, n, k, ρ, P, nb, IV_sm (sm_mono hr.2 fun a j x => Or.inr x) hI', CB_SM hr.2 q2⟩
