/-! the law's value: the reference's side -/
def oj_art (t a n : Nat) : Prop := (∃ rs, ej_sh[a]? = some (50 + t, n, rs)) ∧ n < 2 ^ 31
theorem oj_art_ld {t a n k : Nat} (h : oj_art t a n) (hk : k < n) (m : ej_M) : oj_ld t m a (nI k) = some (m.1 a k) := by
  obtain ⟨⟨rs, h1⟩, h2⟩ := h
  unfold oj_ld ej_al
  simp only [h1]
  have hk' : k < 2 ^ 31 := by omega
  rw [nI_clamp hk']
  simp only [show (50 : Nat) ≤ 50 + t by omega, if_true]
  rw [if_pos ⟨by omega, fun q => q.elim (fun z => nI_pos hk' z) (fun z => by omega)⟩]
theorem oj_art_st {t a n k : Nat} (h : oj_art t a n) (hk : k < n) (m : ej_M) (v : Int32) : oj_st t m a (nI k) v = some (oj_row m a (upd (m.1 a) k v)) := by
  obtain ⟨⟨rs, h1⟩, h2⟩ := h
  unfold oj_st
  simp only [h1]
  have hk' : k < 2 ^ 31 := by omega
  rw [nI_clamp hk', if_pos ⟨trivial, fun q => q.elim (fun z => nI_pos hk' z) (fun z => by omega)⟩, ej_w_row]
theorem oj_divm1 (a : Int32) : a / (-1) = -a := by
  apply Int32.toInt_inj.mp
  rw [Int32.toInt_div, show (-1 : Int32).toInt = -1 by decide, Int.tdiv_neg, Int.tdiv_one, Int32.toInt_neg]
theorem p_twoOf (c a b : Int32) (m : ej_M) : f_X11_twoOf c a b m = some (tk2 c a b, m) := by
  have hrem : a - a / (-1) * (-1) = 0 := by
    rw [oj_divm1]
    have : -a * -1 = a := by
      rw [Int32.mul_neg, Int32.mul_one, Int32.neg_neg]
    rw [this, Int32.sub_self]
  unfold f_X11_twoOf tk2 oj_rm oj_dv
  by_cases h37 : c = 37
  · subst h37
    simp only [if_true]
    by_cases hb : b = 0
    · simp [hb]
    · by_cases hb1 : b = -1
      · subst hb1; simp [hrem]
      · simp [hb, hb1]
  · simp only [if_neg h37]
    by_cases h38 : c = 38
    · subst h38
      simp only [if_true]
      by_cases ha : a = 0
      · simp [ha]
      · by_cases hb : b = 0
        · simp [ha, hb]
        · simp [ha, hb]
    · simp only [if_neg h38]
      by_cases h42 : c = 42
      · simp [h42]
      · simp only [if_neg h42]
        by_cases h43 : c = 43
        · simp [h43]
        · simp only [if_neg h43]
          by_cases h45 : c = 45
          · simp [h45]
          · simp only [if_neg h45]
            by_cases h47 : c = 47
            · subst h47
              simp only [if_true]
              by_cases hb : b = 0
              · simp [hb]
              · by_cases hb1 : b = -1
                · subst hb1; simp [oj_divm1]
                · simp [hb, hb1]
            · simp only [if_neg h47]
              by_cases h60 : c = 60
              · subst h60
                simp only [if_true]
                by_cases hb : b ≤ a
                · simp [hb]
                · simp [hb]
              · simp only [if_neg h60]
                by_cases h61 : c = 61
                · subst h61
                  simp only [if_true]
                  by_cases hb : a = b
                  · simp [hb]
                  · simp [hb]
                · simp only [if_neg h61]
                  by_cases h62 : c = 62
                  · subst h62
                    simp only [if_true]
                    by_cases hb : a ≤ b
                    · simp [hb]
                    · simp [hb]
                  · simp only [if_neg h62]
                    by_cases ha : a = 0
                    · by_cases hb : b = 0
                      · simp [ha, hb]
                      · simp [ha, hb]
                    · simp [ha]
/-- the reference's step of a token: what, with -/
def mt_A (t : Int32) : Int32 := if t < -6 then (if t = -33 then 3 else if t = -126 then 4 else -t) else if t < 0 then 2 else 1
def mt_W (t : Int32) : Int32 := if t < 0 then (-1) - t else t
theorem ar_49 : oj_art 1 49 260 := ⟨⟨_, sh_49⟩, by decide⟩
theorem ar_50 : oj_ar 50 260 := ⟨⟨_, sh_50⟩, by decide⟩
theorem ar_54 : oj_ar 54 6 := ⟨⟨_, sh_54⟩, by decide⟩
theorem ar_55 : oj_ar 55 130 := ⟨⟨_, sh_55⟩, by decide⟩
theorem ar_51 : oj_ar 51 2 := ⟨⟨_, sh_51⟩, by decide⟩
theorem ar_52 : oj_art 2 52 122 := ⟨⟨_, sh_52⟩, by decide⟩
theorem ar_53 : oj_art 2 53 122 := ⟨⟨_, sh_53⟩, by decide⟩
theorem oj_negc {t c : Int32} (h : -t = c) : t = -c := by rw [← h, Int32.neg_neg]
/-- names and numbers as tokens -/
theorem mt_name {t : Int32} (h6 : ¬ t < -6) (hneg : t < 0) : ∃ j : Nat, j < 6 ∧ (-1) - t = nI j := by
  have h9 : (0 : Int32) ≤ -1 - t ∧ -1 - t ≤ 5 := by
    simp only [Int32.le_iff_toInt_le, Int32.lt_iff_toInt_lt] at *
    have q1 : (-6 : Int32).toInt = -6 := by decide
    have q2 : (-1 : Int32).toInt = -1 := by decide
    have q0 : (0 : Int32).toInt = 0 := by decide
    have q5 : (5 : Int32).toInt = 5 := by decide
    rw [Int32.toInt_sub, q2]
    rw [q1] at h6
    rw [q0] at hneg ⊢
    rw [q5, Int.bmod_eq_of_le (by omega) (by omega)]
    omega
  obtain ⟨j, hj, e⟩ := nI_of2 (n := 5) (by decide) (Int32.not_lt.mpr h9.1) h9.2
  exact ⟨j, by omega, e⟩
theorem s_mt1 {env : Nat → Int32} {d e i E : Nat} {t : Int32} {m : ej_M} (hi : i < E) (hE : E < 130) (hA : m.1 49 i = mt_A t) (hW : ¬ t < -6 → m.1 50 i = mt_W t) (hf : ∀ j, j < 6 → m.1 54 j = env j) (hd : d ≤ i) (hdp : tk_dp d t = some e) :
    f_X11_worked_L12b 0 (nI E) (nI d) (nI i) m = some (Sum.inl (nI e, nI (i + 1), oj_row m 55 (tk_st env (d, m.1 55) t).2)) := by
  unfold f_X11_worked_L12b
  have hc : ¬ ((130 * 0) + nI E : Int32) ≤ nI i := by
    rw [Int32.mul_zero, Int32.zero_add]
    exact fun q => by have := (nI_leI (by omega) (by omega)).mp q; omega
  rw [if_neg hc, oj_art_ld ar_49 (by omega), hA]
  simp only [Option.bind_some]
  unfold tk_dp at hdp
  unfold tk_st mt_A
  unfold mt_A at hA
  split at hdp
  · cases hdp
  · next h0 =>
    split at hdp
    · next h6 =>
      rw [if_pos h6, if_pos h6]
      split at hdp
      · next h7 =>
        rw [if_pos h7]
        split at hdp
        · next h8 =>
          cases hdp
          rcases h7 with rfl | rfl
          · simp only [if_true]
            rw [if_neg (by decide), if_neg (by decide), nI_m1 h8, oj_ar_ld ar_55 (by omega)]
            simp only [Option.bind_some]
            unfold f_X11_worked_B117 tk1
            rw [if_neg (show ¬ (-33 : Int32) = -126 by decide)]
            by_cases hz : m.1 55 (d - 1) = 0
            · rw [if_pos hz, if_pos hz, oj_ar_st ar_55 (by omega)]
              simp only [Option.bind_some, nI_1]
            · rw [if_neg hz, if_neg hz, oj_ar_st ar_55 (by omega)]
              simp only [Option.bind_some, nI_1]
          · rw [if_neg (show ¬ (-126 : Int32) = -33 by decide)]
            simp only [if_true]
            rw [if_neg (by decide), if_neg (by decide), if_neg (by decide), nI_m1 h8, oj_ar_ld ar_55 (by omega)]
            simp only [Option.bind_some]
            unfold tk1
            rw [if_pos rfl, oj_ar_st ar_55 (by omega)]
            simp only [Option.bind_some, nI_1]
        · cases hdp
      · next h7 =>
        rw [if_neg h7, if_neg (fun q => h7 (Or.inl q)), if_neg (fun q => h7 (Or.inr q))]
        split at hdp
        · next h8 =>
          cases hdp
          have n1 : ¬ -t = 1 := fun q => by rw [oj_negc q] at h6; exact absurd h6 (by decide)
          have n2 : ¬ -t = 2 := fun q => by rw [oj_negc q] at h6; exact absurd h6 (by decide)
          have n3 : ¬ -t = 3 := fun q => by rw [oj_negc q] at h6; exact absurd h6 (by decide)
          have n4 : ¬ -t = 4 := fun q => by rw [oj_negc q] at h6; exact absurd h6 (by decide)
          rw [if_neg n1, if_neg n2, if_neg n3, if_neg n4, nI_am1 (by omega), nI_m1 (by omega), oj_ar_ld ar_55 (by omega)]
          simp only [Option.bind_some]
          rw [oj_ar_ld ar_55 (by omega)]
          simp only [Option.bind_some, p_twoOf]
          rw [oj_ar_st ar_55 (by omega)]
          simp only [Option.bind_some, nI_1]
          rw [show d - 1 - 1 = d - 2 by omega]
        · cases hdp
    · next h6 =>
      cases hdp
      rw [if_neg h6, if_neg h6]
      have hw := hW h6
      by_cases hneg : t < 0
      · rw [if_pos hneg, if_pos hneg, if_neg (by decide), if_pos rfl]
        unfold f_X11_worked_B45
        rw [if_neg (by decide), oj_ar_ld ar_50 (by omega), hw]
        simp only [Option.bind_some]
        obtain ⟨j, hj, hjt⟩ := mt_name h6 hneg
        unfold mt_W
        rw [if_pos hneg, hjt, oj_ar_ld ar_54 hj]
        simp only [Option.bind_some]
        unfold f_X11_worked_B79
        rw [oj_ar_st ar_55 (by omega), hf j hj, nI_clamp (by omega)]
        simp only [Option.bind_some, nI_1]
      · rw [if_neg hneg, if_neg hneg, if_pos rfl]
        unfold f_X11_worked_B45
        rw [if_pos rfl, oj_ar_ld ar_50 (by omega), hw]
        simp only [Option.bind_some]
        unfold mt_W
        rw [if_neg hneg]
        unfold f_X11_worked_B79
        rw [oj_ar_st ar_55 (by omega)]
        simp only [Option.bind_some, nI_1]
def s_wb (E : Int32) (q : Int32 × Int32 × ej_M) : Option ((Int32 × Int32 × ej_M) ⊕ (Int32 × ej_M)) := f_X11_worked_L12b 0 E q.1 q.2.1 q.2.2
theorem s_mts {env : Nat → Int32} {E : Nat} (hE : E < 130) : ∀ (ts : List Int32) {d e i K : Nat} {m : ej_M}, tk_dps d ts = some e → d ≤ i → i + ts.length = E → (∀ j, j < ts.length → m.1 49 (i + j) = mt_A (ts.getD j 0) ∧ (¬ ts.getD j 0 < -6 → m.1 50 (i + j) = mt_W (ts.getD j 0))) → (∀ j, j < 6 → m.1 54 j = env j) → ts.length < K →
    oj_wp (oj_loop (s_wb (nI E)) K (nI d, nI i, m)) (fun q => q.1 = (tk_run env (d, m.1 55) ts).2 0 ∧ ∃ g, q.2 = oj_row m 55 g) := by
  intro ts
  induction ts with
  | nil =>
    intro d e i K m h hd hi hm hf hK
    obtain ⟨K, rfl⟩ : ∃ K', K = K' + 1 := ⟨K - 1, by omega⟩
    refine wp_loop1 ?_
    show oj_wp (f_X11_worked_L12b 0 (nI E) (nI d) (nI i) m) _
    unfold f_X11_worked_L12b
    rw [if_pos (by rw [Int32.mul_zero, Int32.zero_add]; rw [show E = i by simpa using hi.symm]; exact Int32.le_refl _), show (0 : Int32) = nI 0 from rfl, oj_ar_ld ar_55 (by decide)]
    simp only [Option.bind_some]
    exact wp_inr ⟨rfl, m.1 55, oj_row_id.symm⟩
  | cons t ts ih =>
    intro d e i K m h hd hi hm hf hK
    unfold tk_dps at h
    obtain ⟨d', h1, h2⟩ := Option.bind_eq_some_iff.mp h
    simp only [List.length_cons] at hi hm hK
    obtain ⟨K, rfl⟩ : ∃ K', K = K' + 1 := ⟨K - 1, by omega⟩
    refine wp_loop1 ?_
    have hm0 := hm 0 (by omega)
    simp only [Nat.add_zero, List.getD_cons_zero] at hm0
    show oj_wp (f_X11_worked_L12b 0 (nI E) (nI d) (nI i) m) _
    rw [s_mt1 (env := env) (by omega) hE hm0.1 hm0.2 hf hd h1]
    have hd' : d' ≤ d + 1 := by
      have := tk_dps_le [t] (d := d) (e := d') (by unfold tk_dps; rw [h1]; rfl)
      simpa using this
    refine wp_inl ?_
    refine wp_mono (ih h2 (by omega) (by omega) (fun j hj => ?_) (fun j hj => by rw [oj_row_n (by decide)]; exact hf j hj) (by omega)) fun q hq => ?_
    · rw [oj_row_n (by decide), oj_row_n (by decide)]
      have := hm (j + 1) (by omega)
      rw [show i + 1 + j = i + (j + 1) by omega]
      simpa using this
    · obtain ⟨q1, g, q2⟩ := hq
      refine ⟨?_, g, by rw [q2, oj_row_row]⟩
      rw [q1, oj_row_s]
      have e1 : tk_st env (d, m.1 55) t = (d', (tk_st env (d, m.1 55) t).2) := Prod.ext (tk_dp_st h1) rfl
      unfold tk_run
      rw [List.foldl_cons, ← e1]
/-- a text's stretch, worked out -/
theorem s_worked {env : Nat → Int32} {f : Nat} {ts : List Int32} {m : ej_M} (hE : f + ts.length < 130) (h : tk_dps 0 ts = some 1) (hm : ∀ j, j < ts.length → m.1 49 (f + j) = mt_A (ts.getD j 0) ∧ (¬ ts.getD j 0 < -6 → m.1 50 (f + j) = mt_W (ts.getD j 0))) (hf : ∀ j, j < 6 → m.1 54 j = env j) :
    oj_wp (f_X11_worked 0 (nI f) (nI (f + ts.length)) m) (fun q => q.1 = tk_v env ts ∧ ∃ g, q.2 = oj_row m 55 g) := by
  unfold f_X11_worked f_X11_worked_L12
  rw [Int32.mul_zero, Int32.zero_add]
  refine wp_mono (s_mts (env := env) (E := f + ts.length) hE ts (d := 0) (i := f) (K := oj_FU) (m := m) h (Nat.zero_le _) rfl hm hf (by unfold oj_FU; omega)) fun q hq => ⟨?_, hq.2⟩
  rw [hq.1]
  exact (tk_v_of h).2
