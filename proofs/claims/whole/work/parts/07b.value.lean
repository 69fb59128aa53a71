/-! the law's value: tokens, a stack machine on functions; the class's side -/
theorem wp_loop1 {S E : Type} {body : S → Option (S ⊕ E)} {k : Nat} {s : S} {Q : E → Prop} (h : oj_wp (body s) (oj_k (fun s' => oj_wp (oj_loop body k s') Q) Q)) : oj_wp (oj_loop body (k + 1) s) Q := by
  obtain ⟨x, hx, hq⟩ := h
  unfold oj_loop
  rw [hx]
  cases x with
  | inl s' => exact hq
  | inr e => exact ⟨e, rfl, hq⟩
def tk1 (t a : Int32) : Int32 := if t = -126 then -a else if a = 0 then 1 else 0
def tk2 (c a b : Int32) : Int32 := if c = 37 then (if b = 0 then 0 else a - a / b * b) else if c = 38 then (if a = 0 then 0 else if b = 0 then 0 else 1) else if c = 42 then a * b else if c = 43 then a + b else if c = 45 then a - b
  else if c = 47 then (if b = 0 then 0 else a / b) else if c = 60 then (if b ≤ a then 0 else 1) else if c = 61 then (if a = b then 1 else 0) else if c = 62 then (if a ≤ b then 0 else 1) else if a = 0 then (if b = 0 then 0 else 1) else 1
theorem p_joined (c a b : Int32) (m : ej_M) : f_X2_joined c a b m = some (tk2 c a b, m) := by
  unfold f_X2_joined tk2 oj_rm oj_dv
  by_cases h37 : c = 37
  · rw [if_pos h37, if_pos h37]
    by_cases hb : b = 0
    · rw [if_pos hb, if_pos hb]
    · rw [if_neg hb, if_neg hb, if_neg hb]; rfl
  · rw [if_neg h37, if_neg h37]
    by_cases h38 : c = 38
    · rw [if_pos h38, if_pos h38]
      by_cases ha : a = 0
      · rw [if_pos ha, if_pos ha]
      · rw [if_neg ha, if_neg ha]
        by_cases hb : b = 0
        · rw [if_pos hb, if_pos hb]
        · rw [if_neg hb, if_neg hb]
    · rw [if_neg h38, if_neg h38]
      by_cases h42 : c = 42
      · rw [if_pos h42, if_pos h42]
      · rw [if_neg h42, if_neg h42]
        by_cases h43 : c = 43
        · rw [if_pos h43, if_pos h43]
        · rw [if_neg h43, if_neg h43]
          by_cases h45 : c = 45
          · rw [if_pos h45, if_pos h45]
          · rw [if_neg h45, if_neg h45]
            by_cases h47 : c = 47
            · rw [if_pos h47, if_pos h47]
              by_cases hb : b = 0
              · rw [if_pos hb, if_pos hb]
              · rw [if_neg hb, if_neg hb, if_neg hb]; rfl
            · rw [if_neg h47, if_neg h47]
              by_cases h60 : c = 60
              · rw [if_pos h60, if_pos h60]
                by_cases hb : b ≤ a
                · rw [if_pos hb, if_pos hb]
                · rw [if_neg hb, if_neg hb]
              · rw [if_neg h60, if_neg h60]
                by_cases h61 : c = 61
                · rw [if_pos h61, if_pos h61]
                  by_cases hb : a = b
                  · rw [if_pos hb, if_pos hb]
                  · rw [if_neg hb, if_neg hb]
                · rw [if_neg h61, if_neg h61]
                  by_cases h62 : c = 62
                  · rw [if_pos h62, if_pos h62]
                    by_cases hb : a ≤ b
                    · rw [if_pos hb, if_pos hb]
                    · rw [if_neg hb, if_neg hb]
                  · rw [if_neg h62, if_neg h62]
                    by_cases ha : a = 0
                    · rw [if_pos ha, if_pos ha]
                      by_cases hb : b = 0
                      · rw [if_pos hb, if_pos hb]
                      · rw [if_neg hb, if_neg hb]
                    · rw [if_neg ha, if_neg ha]
def tk_st (env : Nat → Int32) (q : Nat × (Nat → Int32)) (t : Int32) : Nat × (Nat → Int32) :=
  if t < -6 then
    if t = -33 ∨ t = -126 then (q.1, upd q.2 (q.1 - 1) (tk1 t (q.2 (q.1 - 1))))
    else (q.1 - 1, upd q.2 (q.1 - 2) (tk2 (-t) (q.2 (q.1 - 2)) (q.2 (q.1 - 1))))
  else (q.1 + 1, upd q.2 q.1 (if t < 0 then env ((-1) - t).toNatClampNeg else t))
def tk_dp (d : Nat) (t : Int32) : Option Nat :=
  if t = -59 ∨ t = -63 then none
  else if t < -6 then (if t = -33 ∨ t = -126 then (if 1 ≤ d then some d else none) else if 2 ≤ d then some (d - 1) else none)
  else some (d + 1)
def tk_dps (d : Nat) : List Int32 → Option Nat
  | [] => some d
  | t :: l => (tk_dp d t).bind fun d' => tk_dps d' l
def tk_run (env : Nat → Int32) (q : Nat × (Nat → Int32)) (l : List Int32) : Nat × (Nat → Int32) := l.foldl (tk_st env) q
def tk_v (env : Nat → Int32) (l : List Int32) : Int32 := (tk_run env (0, fun _ => 0) l).2 0
def tk_lines (env : Nat → Int32) : List (List Int32 × List Int32) → Int32
  | [] => 0
  | (t, b) :: P => if t = [] then tk_v env b else if tk_v env t = 0 then tk_lines env P else tk_v env b
def tk_line (q : List Int32 × List Int32) : List Int32 := (if q.1 = [] then [] else q.1 ++ [-63]) ++ (q.2 ++ [-59])
def tk_flat (P : List (List Int32 × List Int32)) : List Int32 := P.flatMap tk_line
def tk_wfl (q : List Int32 × List Int32) : Prop := (q.1 = [] ∨ tk_dps 0 q.1 = some 1) ∧ tk_dps 0 q.2 = some 1
def tk_wf (P : List (List Int32 × List Int32)) : Prop := (∀ q ∈ P, tk_wfl q) ∧ (tk_flat P).length ≤ 121
theorem tk_dp_st {env : Nat → Int32} {d e : Nat} {g : Nat → Int32} {t : Int32} (h : tk_dp d t = some e) : (tk_st env (d, g) t).1 = e := by
  unfold tk_dp at h
  unfold tk_st
  split at h
  · cases h
  · split at h
    · next h6 =>
      rw [if_pos h6]
      split at h
      · next h7 =>
        rw [if_pos h7]
        split at h
        · exact Option.some.inj h
        · cases h
      · next h7 =>
        rw [if_neg h7]
        split at h
        · exact Option.some.inj h
        · cases h
    · next h6 =>
      rw [if_neg h6]
      exact Option.some.inj h
/-- what stands above the stack's top doesn't matter -/
theorem tk_agree1 {env : Nat → Int32} {d e : Nat} {g g' : Nat → Int32} {t : Int32} (h : tk_dp d t = some e) (hg : ∀ i, i < d → g i = g' i) : ∀ i, i < e → (tk_st env (d, g) t).2 i = (tk_st env (d, g') t).2 i := by
  intro i hi
  unfold tk_dp at h
  unfold tk_st
  split at h
  · cases h
  · split at h
    · next h6 =>
      rw [if_pos h6, if_pos h6]
      split at h
      · next h7 =>
        rw [if_pos h7, if_pos h7]
        split at h
        · next h8 =>
          cases h
          simp only [upd]
          split
          · rw [hg (d - 1) (by omega)]
          · exact hg i hi
        · cases h
      · next h7 =>
        rw [if_neg h7, if_neg h7]
        split at h
        · next h8 =>
          cases h
          simp only [upd]
          split
          · rw [hg (d - 1) (by omega), hg (d - 2) (by omega)]
          · exact hg i (by omega)
        · cases h
    · next h6 =>
      cases h
      rw [if_neg h6, if_neg h6]
      simp only [upd]
      split
      · rfl
      · exact hg i (by omega)
theorem tk_agree {env : Nat → Int32} : ∀ (l : List Int32) {d e : Nat} {g g' : Nat → Int32}, tk_dps d l = some e → (∀ i, i < d → g i = g' i) → (tk_run env (d, g) l).1 = e ∧ (tk_run env (d, g') l).1 = e ∧ ∀ i, i < e → (tk_run env (d, g) l).2 i = (tk_run env (d, g') l).2 i := by
  intro l
  induction l with
  | nil =>
    intro d e g g' h hg
    cases h
    exact ⟨rfl, rfl, hg⟩
  | cons t l ih =>
    intro d e g g' h hg
    unfold tk_dps at h
    obtain ⟨d', h1, h2⟩ := Option.bind_eq_some_iff.mp h
    have e1 : tk_st env (d, g) t = (d', (tk_st env (d, g) t).2) := Prod.ext (tk_dp_st h1) rfl
    have e2 : tk_st env (d, g') t = (d', (tk_st env (d, g') t).2) := Prod.ext (tk_dp_st h1) rfl
    have := ih (g := (tk_st env (d, g) t).2) (g' := (tk_st env (d, g') t).2) h2 (tk_agree1 h1 hg)
    unfold tk_run at this ⊢
    rw [List.foldl_cons, List.foldl_cons, e1, e2]
    exact this
theorem tk_v_of {env : Nat → Int32} {l : List Int32} {g : Nat → Int32} (h : tk_dps 0 l = some 1) : (tk_run env (0, g) l).1 = 1 ∧ (tk_run env (0, g) l).2 0 = tk_v env l := by
  have := tk_agree (env := env) l (g := g) (g' := fun _ => 0) h (fun i hi => by omega)
  exact ⟨this.1, this.2.2 0 (by decide)⟩
theorem tk_dps_le : ∀ (l : List Int32) {d e : Nat}, tk_dps d l = some e → e ≤ d + l.length := by
  intro l
  induction l with
  | nil => intro d e h; cases h; simp
  | cons t l ih =>
    intro d e h
    unfold tk_dps at h
    obtain ⟨d', h1, h2⟩ := Option.bind_eq_some_iff.mp h
    have := ih h2
    have h3 : d' ≤ d + 1 := by
      unfold tk_dp at h1
      repeat' split at h1
      all_goals first | (cases h1; done) | (cases h1; omega)
    simp only [List.length_cons]
    omega
theorem oj_sv0 : oj_sv 2000 = some 3000 := by decide
set_option maxRecDepth 100000 in
theorem p_len6 (m : ej_M) : f_J0_length_8abf5 2000 m = some (6, m) := by
  unfold f_J0_length_8abf5
  rw [oj_sv0]
  simp only [Option.bind_some]
  rw [show oj_ln m 3000 = some 6 from rfl]
  simp only [Option.bind_some]
  unfold f_J0_coder_7d493
  rw [if_neg (by decide), show oj_sc 2000 = some 0 by decide]
  simp only [Option.bind_some]
  unfold oj_rn
  rw [if_pos (by decide)]
  simp only [Option.bind_some]
  rw [show (6 : Int32) >>> (0 &&& 31) = 6 by decide]
def tk_env (w l r k n s : Int32) (i : Nat) : Int32 := match i with
  | 0 => w
  | 1 => l
  | 2 => r
  | 3 => k
  | 4 => n
  | _ => s
theorem ar_4 : oj_ar 4 121 := ⟨⟨_, sh_4⟩, by decide⟩
theorem ar_5 : oj_ar 5 121 := ⟨⟨_, sh_5⟩, by decide⟩
theorem tk_env_named {w l r k n s : Int32} {v : Int32} (h : 0 ≤ v) (m : ej_M) : f_X2_named v w l r k n s m = some (tk_env w l r k n s v.toNatClampNeg, m) := by
  obtain ⟨j, hj, rfl⟩ := nI_of (Int32.not_lt.mpr h)
  rw [nI_clamp hj]
  unfold f_X2_named
  have e : ∀ c : Nat, c < 2 ^ 31 → (nI j = nI c ↔ j = c) := fun c hc => nI_eq hj hc
  rw [show (0 : Int32) = nI 0 from rfl, show (1 : Int32) = nI 1 from rfl, show (2 : Int32) = nI 2 from rfl, show (3 : Int32) = nI 3 from rfl, show (4 : Int32) = nI 4 from rfl]
  simp only [e 0 (by decide), e 1 (by decide), e 2 (by decide), e 3 (by decide), e 4 (by decide)]
  match j with
  | 0 => rfl
  | 1 => rfl
  | 2 => rfl
  | 3 => rfl
  | 4 => rfl
  | j + 5 => simp [tk_env]
/-- one token of a line -/
theorem s_val1 {w l r k n s : Int32} {d e i : Nat} {v8 t : Int32} {m : ej_M} (h1 : m.1 1 6 = nI (i + 1) ∨ ∃ c, i < c ∧ c < 2 ^ 31 ∧ m.1 1 6 = nI c) (hi : i < 121) (ht : m.1 4 i = t) (hd : d < 121) (hdp : tk_dp d t = some e) :
    f_X2_value_L29b w l r k n s (nI d) v8 (nI i) m = some (Sum.inl (nI e, v8, nI (i + 1), oj_row m 5 (tk_st (tk_env w l r k n s) (d, m.1 5) t).2)) := by
  have hc : ¬ m.1 1 6 ≤ nI i := by
    rcases h1 with h | ⟨c, hc, hc2, h⟩
    · rw [h]
      exact fun q => by have := (nI_leI (by omega) (by omega)).mp q; omega
    · rw [h]
      exact fun q => by have := (nI_leI hc2 (by omega)).mp q; omega
  unfold f_X2_value_L29b
  rw [if_neg hc, p_at1 ar_4 hi, ht]
  simp only [Option.bind_some, oj_sv0, p_len6]
  rw [show (-(6 : Int32)) = -6 from rfl]
  unfold tk_dp at hdp
  unfold tk_st
  split at hdp
  · cases hdp
  · next h0 =>
    have h59 : ¬ t = -59 := fun q => h0 (Or.inl q)
    have h63 : ¬ t = -63 := fun q => h0 (Or.inr q)
    split at hdp
    · next h6 =>
      rw [if_pos h6, if_pos h6]
      split at hdp
      · next h7 =>
        rw [if_pos h7]
        split at hdp
        · next h8 =>
          cases hdp
          have key : f_X2_value_B115 w l r k n s (nI d) v8 (nI i) t m = some (Sum.inl (nI d, v8, nI (i + 1), oj_row m 5 (upd (m.1 5) (d - 1) (tk1 t (m.1 5 (d - 1)))))) := by
            unfold f_X2_value_B115
            rw [nI_m1 h8, p_at1 ar_5 (by omega)]
            simp only [Option.bind_some]
            have ha : f_X2_alone (-t) (m.1 5 (d - 1)) m = some (tk1 t (m.1 5 (d - 1)), m) := by
              unfold f_X2_alone tk1
              rcases h7 with rfl | rfl
              · rw [if_neg (show ¬ (-(-33 : Int32)) = 126 by decide), if_neg (show ¬ (-33 : Int32) = -126 by decide)]
                split <;> rfl
              · rw [if_pos (show (-(-126 : Int32)) = 126 by decide), if_pos rfl]
            rw [ha]
            simp only [Option.bind_some]
            rw [p_lay1 ar_5 (by omega)]
            simp only [Option.bind_some, nI_1]
          rcases h7 with rfl | rfl
          · rw [if_pos rfl]; exact key
          · rw [if_neg (by decide), if_pos rfl]; exact key
        · cases hdp
      · next h7 =>
        rw [if_neg h7, if_neg (fun q => h7 (Or.inl q)), if_neg (fun q => h7 (Or.inr q))]
        split at hdp
        · next h8 =>
          cases hdp
          rw [nI_am1 (by omega), p_at1 ar_5 (by omega)]
          simp only [Option.bind_some]
          rw [if_neg h59]
          unfold f_X2_value_B175
          rw [if_neg h59, if_neg h63, nI_m1 (by omega), p_at1 ar_5 (by omega)]
          simp only [Option.bind_some, p_joined]
          rw [p_lay1 ar_5 (by omega)]
          simp only [Option.bind_some, nI_1]
          rw [show d - 1 - 1 = d - 2 by omega]
        · cases hdp
    · next h6 =>
      cases hdp
      rw [if_neg h6, if_neg h6]
      by_cases hneg : t < 0
      · rw [if_pos hneg, if_pos hneg]
        have h9 : (0 : Int32) ≤ -1 - t := by
          rw [Int32.le_iff_toInt_le] at *
          rw [Int32.lt_iff_toInt_lt] at *
          have q1 : (-6 : Int32).toInt = -6 := by decide
          have q2 : (-1 : Int32).toInt = -1 := by decide
          have q0 : (0 : Int32).toInt = 0 := by decide
          rw [Int32.toInt_sub, q2]
          rw [q1] at h6
          rw [q0] at hneg ⊢
          rw [Int.bmod_eq_of_le (by omega) (by omega)]
          omega
        rw [tk_env_named h9]
        simp only [Option.bind_some]
        unfold f_X2_value_B92
        rw [p_lay1 ar_5 hd]
        simp only [Option.bind_some, nI_1]
      · rw [if_neg hneg, if_neg hneg]
        unfold f_X2_value_B92
        rw [p_lay1 ar_5 hd]
        simp only [Option.bind_some, nI_1]
