/-! fewest: the search, in the second -/
theorem nar_sh : ∀ a, a < 800 → vp_nar .short ((Int32.toInt16 (nI a)).toInt32) = nI a := by decide +kernel
theorem nar_s0 : vp_nar .short 0 = nI 0 := by decide
theorem nar_s1 : vp_nar .short (-1) = -1 := by decide
def SG0 (a j : Nat) : Prop := MC a j ∨ a = 56 ∨ a = 60 ∨ a = 61
theorem SG0_SM {a j : Nat} (h : SG0 a j) : SM a j := by unfold SG0 MC at h; unfold SM; omega
def QM (k : Nat) (Q : List ((Nat → Nat) × Nat)) (m : ej_M) : Prop :=
  (∀ (i : Nat) (e : (Nat → Nat) × Nat), Q[i]? = some e → m.1 61 i = nI (rk e.1 k)) ∧ (∀ (e : (Nat → Nat) × Nat), e ∈ Q → m.1 60 (rk e.1 k) = nI e.2) ∧ ∀ x, x < 720 → ¬ vis k Q x = true → m.1 60 x = -1
theorem QM_fr {k : Nat} {Q : List ((Nat → Nat) × Nat)} {S : Nat → Nat → Prop} {m m' : ej_M} (hs : oj_sm S m m') (h : QM k Q m) (h2 : ∀ i, ¬ S 60 i) (h3 : ∀ i, ¬ S 61 i) : QM k Q m' := by
  obtain ⟨b, c, d⟩ := h
  refine ⟨fun i e he => (hs.2 61 i (h3 i)).trans (b i e he), fun e he => (hs.2 60 _ (h2 _)).trans (c e he), fun x hx hv => ?_⟩
  rw [hs.2 60 x (h2 x)]
  exact d x hx hv
theorem m_push {k d : Nat} {r : Nat → Nat} {Q : List ((Nat → Nat) × Nat)} {m : ej_M} (hQ : QM k Q m) (hv : ¬ vis k Q (rk r k) = true) : QM k (Q ++ [(r, d)]) (oj_row (oj_row m 60 (upd (m.1 60) (rk r k) (nI d))) 61 (upd (m.1 61) Q.length (nI (rk r k)))) := by
  obtain ⟨b, c, dd⟩ := hQ
  refine ⟨fun i e he => ?_, fun e he => ?_, fun x hx hvx => ?_⟩
  · rw [oj_row_s]
    unfold upd
    by_cases l : i < Q.length
    · rw [if_neg (by omega)]
      rw [List.getElem?_append_left l] at he
      exact b i e he
    · rw [List.getElem?_append_right (by omega)] at he
      have hi : i - Q.length = 0 := by
        by_cases z : i - Q.length = 0
        · exact z
        · rw [List.getElem?_eq_none (by show 1 ≤ _; omega)] at he; cases he
      rw [hi] at he
      rw [if_pos (by omega), show e = (r, d) from (Option.some.inj he).symm]
  · rw [oj_row_n (by decide), oj_row_s]
    unfold upd
    rcases List.mem_append.mp he with z | z
    · rw [if_neg (fun w => hv (vis_iff.mpr ⟨e, z, w⟩))]
      exact c e z
    · rw [List.mem_singleton.mp z, if_pos rfl]
  · rw [oj_row_n (by decide), oj_row_s]
    rw [vis_app] at hvx
    have hx2 : x ≠ rk r k := fun w => hvx (by rw [decide_eq_true w, Bool.or_true])
    unfold upd
    rw [if_neg hx2]
    exact dd x hx fun w => hvx (by rw [w, Bool.true_or])
theorem PR_lt {k N : Nat} {ρ r : Nat → Nat} (hP : PR k ρ r) (h : ∀ q, q < k → ρ q < N) : ∀ q, q < k → r q < N := fun q hq => by
  obtain ⟨q', a, b⟩ := (hP.1 (r q)).mp ⟨q, hq, rfl⟩
  rw [← b]
  exact h q' a
theorem QW_e2 {k : Nat} {ρ : Nat → Nat} {Q : List ((Nat → Nat) × Nat)} {e : (Nat → Nat) × Nat} (hW : QW k ρ Q) (he : e ∈ Q) : e.2 < 720 := by
  have hlen := QW_len hW
  obtain ⟨i, hi⟩ := List.mem_iff_getElem?.mp he
  have h2 := (hW.1 i e hi).2.2
  have hil : i < Q.length := by
    by_cases z : i < Q.length
    · exact z
    · rw [List.getElem?_eq_none (by omega)] at hi; cases hi
  omega
theorem m_eachIn {P : Option (List (List Int32 × List Int32))} {w : Nat → Int32} {g : Int32} {k N i : Nat} {v1 v4 : Int32} {ρ : Nat → Nat} {Q : List ((Nat → Nat) × Nat)} {e : (Nat → Nat) × Nat} {m : ej_M} (hk : k ≤ 6) (hN : N ≤ 8) (hi : i < k) (hK : MK P w g N m) (h4 : m.1 41 4 = nI k) (h29 : m.1 41 29 = nI k) (h43 : ∀ q, q < k → m.1 43 q = nI (ρ q) ∧ ρ q < N) (hj : ∀ p q, p < k → q < k → ρ p = ρ q → p = q) (hQ : QM k Q m) (hW : QW k ρ Q) (he : e ∈ Q) (hP : PR k ρ e.1) (hd : e.2 + 1 ≤ Q.length) :
    oj_wp (f_X11_goTurns_L98 v1 v4 (nI (rk e.1 k)) (nI i) (nI Q.length) (nI (i + 1)) m) (oj_k (fun s => s.1 = nI (tj (LWf P w g k) k Q e i k).length ∧ s.2.1 = nI (i + 1) ∧ oj_sm SG0 m s.2.2 ∧ QM k (tj (LWf P w g k) k Q e i k) s.2.2) fun _ => False) := by
  have h8 : ∀ q, q < k → e.1 q < 8 := fun q hq => by have := PR_lt hP (fun q hq => (h43 q hq).2) q hq; omega
  unfold f_X11_goTurns_L98
  refine wp_loop (fun j (s : Int32 × Int32 × ej_M) => s.1 = nI (tj (LWf P w g k) k Q e i j).length ∧ s.2.1 = nI j ∧ i < j ∧ oj_sm SG0 m s.2.2 ∧ QM k (tj (LWf P w g k) k Q e i j) s.2.2) k (by unfold oj_FU; omega) (fun j s hj' hJ => ?_) (fun s hJ => ?_) (i0 := i + 1) (by omega) ⟨by rw [tj_lo (i + 1) (Nat.le_refl _)], rfl, by omega, sm_refl, by rw [tj_lo (i + 1) (Nat.le_refl _)]; exact hQ⟩
  · obtain ⟨v, v', m1⟩ := s
    obtain ⟨rfl, rfl, hij, i1, i3⟩ := hJ
    simp only at i1 i3 ⊢
    have hW2 := tj_QW (LW := LWf P w g k) (i := i) hk hW hP h8 hd j (by omega)
    have hlen := QW_len hW2.1
    have hPr := PR_rv hij hj' hP
    have hr8 := PR_lt hPr fun q hq => (h43 q hq).2
    unfold f_X11_goTurns_L98b
    rw [i1.2 41 4 (by unfold SG0 MC; omega), h4, if_neg (fun q => by have := (nI_leI (by omega) (by omega)).mp q; omega)]
    refine wp_bind (wp_mono (m_layRank hk ((i1.2 41 29 (by unfold SG0 MC; omega)).trans h29) ((i1.2 41 4 (by unfold SG0 MC; omega)).trans h4) (fun q hq => ⟨(i1.2 43 q (by unfold SG0 MC; omega)).trans (h43 q hq).1, by have := (h43 q hq).2; omega⟩) hj hP h8) fun q hq => ?_)
    obtain ⟨q1, q2⟩ := hq
    rw [m_turnRow (by omega) (by omega), o_bs]
    simp only
    have hs2 : oj_sm (fun a _ => a = 56) m1 (oj_row q.2 56 (o_rv i j (q.2.1 56))) := sm_trans q1 (sm_a fun _ => rfl)
    generalize hm2 : oj_row q.2 56 (o_rv i j (q.2.1 56)) = m2 at hs2
    have hr : ∀ q, q < k → m2.1 56 q = nI (r_rv i j e.1 q) ∧ r_rv i j e.1 q < N := fun q' hq' => by
      rw [← hm2, oj_row_s]
      exact ⟨rv_nI hj' q2 hq', hr8 q' hq'⟩
    have hs3 : oj_sm SG0 m m2 := sm_trans i1 (sm_mono hs2 fun a j z => Or.inr (Or.inl z))
    have hQ2 : QM k (tj (LWf P w g k) k Q e i j) m2 := QM_fr hs2 i3 (fun i => by omega) (fun i => by omega)
    have e29 : m2.1 41 29 = nI k := (hs3.2 41 29 (by unfold SG0 MC; omega)).trans h29
    rw [m_rank e29 hk (fun q' hq' => ⟨(hr q' hq').1, by have := (hr q' hq').2; omega⟩), o_bs]
    simp only
    rw [oj_art_ld ar_60 (rk_lt hk), o_bs]
    by_cases hv : vis k (tj (LWf P w g k) k Q e i j) (rk (r_rv i j e.1) k) = true
    · obtain ⟨f, f1, f2⟩ := vis_iff.mp hv
      rw [← f2, hQ2.2.1 f f1, if_pos (nI_0le (by have := QW_e2 hW2.1 f1; omega)), nI_1]
      have ea : ad (LWf P w g k) k (tj (LWf P w g k) k Q e i j) (r_rv i j e.1) (e.2 + 1) = tj (LWf P w g k) k Q e i j := by
        unfold ad
        rw [if_pos hv]
      refine wp_inl ⟨?_, rfl, by omega, hs3, ?_⟩
      · simp only
        rw [tj_s1 hij, ea]
      · rw [tj_s1 hij, ea]; exact hQ2
    · rw [hQ2.2.2 _ (rk_lt hk) hv, if_neg (show ¬ (0 : Int32) ≤ -1 by decide)]
      refine wp_bind (wp_mono (mk_all (n := k) (MK_go hN (sm_mono hs3 fun _ _ => SG0_SM) hK) hN (by omega) e29 hr) fun t ht => ?_)
      obtain ⟨t1, t2⟩ := ht
      have hs4 : oj_sm SG0 m t.2 := sm_trans hs3 (sm_mono t2 fun a j z => Or.inl z)
      have hQ3 : QM k (tj (LWf P w g k) k Q e i j) t.2 := QM_fr t2 hQ2 (fun i => by unfold MC; omega) (fun i => by unfold MC; omega)
      by_cases hl : LWf P w g k (r_rv i j e.1) = true
      · have ea : ad (LWf P w g k) k (tj (LWf P w g k) k Q e i j) (r_rv i j e.1) (e.2 + 1) = tj (LWf P w g k) k Q e i j ++ [(r_rv i j e.1, e.2 + 1)] := by
          unfold ad
          rw [if_neg hv, if_pos hl]
        have hlt : (tj (LWf P w g k) k Q e i j).length < 720 := by
          have := QW_len (QW_app (d := e.2 + 1) hk hW2.1 hv hPr (fun q hq => by have := hr8 q hq; omega) (Nat.le_trans hd hW2.2.length_le))
          rw [List.length_append] at this
          exact this
        rw [t1, if_pos hl, if_neg i10, oj_art_ld ar_60 (rk_lt hk), o_bs, hQ3.2.1 e (hW2.2.subset he), nI_1, nar_sh _ (by have := QW_e2 hW he; omega), oj_art_st ar_60 (rk_lt hk), o_bs, nar_sh _ (by have := rk_lt (r := r_rv i j e.1) hk; omega), oj_art_st ar_61 hlt, o_bs, oj_row_n (show (61 : Nat) ≠ 60 by decide), nI_1, nI_1]
        refine wp_inl ⟨?_, rfl, by omega, sm_trans hs4 (sm_trans (sm_a fun _ => Or.inr (Or.inr (Or.inl rfl))) (sm_a fun _ => Or.inr (Or.inr (Or.inr rfl)))), ?_⟩
        · simp only
          rw [tj_s1 hij, ea, List.length_append]
          rfl
        · rw [tj_s1 hij, ea]
          exact m_push hQ3 hv
      · have ea : ad (LWf P w g k) k (tj (LWf P w g k) k Q e i j) (r_rv i j e.1) (e.2 + 1) = tj (LWf P w g k) k Q e i j := by
          unfold ad
          rw [if_neg hv, if_neg hl]
        rw [t1, if_neg hl, if_pos rfl, nI_1]
        refine wp_inl ⟨?_, rfl, by omega, hs4, ?_⟩
        · simp only
          rw [tj_s1 hij, ea]
        · rw [tj_s1 hij, ea]; exact hQ3
  · obtain ⟨v, v', m1⟩ := s
    obtain ⟨rfl, rfl, hij, i1, i3⟩ := hJ
    simp only at i1 i3 ⊢
    unfold f_X11_goTurns_L98b
    rw [i1.2 41 4 (by unfold SG0 MC; omega), h4, if_pos (Int32.le_refl _), nI_1]
    exact wp_inr ⟨rfl, rfl, i1, i3⟩
theorem m_each {P : Option (List (List Int32 × List Int32))} {w : Nat → Int32} {g : Int32} {k N h : Nat} {v1 : Int32} {ρ : Nat → Nat} {Q : List ((Nat → Nat) × Nat)} {e : (Nat → Nat) × Nat} {m : ej_M} (hk : k ≤ 6) (hN : N ≤ 8) (hK : MK P w g N m) (h4 : m.1 41 4 = nI k) (h29 : m.1 41 29 = nI k) (h43 : ∀ q, q < k → m.1 43 q = nI (ρ q) ∧ ρ q < N) (hj : ∀ p q, p < k → q < k → ρ p = ρ q → p = q) (hQ : QM k Q m) (hW : QW k ρ Q) (he : e ∈ Q) (hP : PR k ρ e.1) (hd : e.2 + 1 ≤ Q.length) :
    oj_wp (f_X11_goTurns_L83 v1 (nI h) (nI (rk e.1 k)) (nI Q.length) 0 m) (oj_k (fun s => s.1 = nI (ti (LWf P w g k) k Q e k).length ∧ s.2.1 = nI (h + 1) ∧ oj_sm SG0 m s.2.2 ∧ QM k (ti (LWf P w g k) k Q e k) s.2.2) fun _ => False) := by
  have h8 : ∀ q, q < k → e.1 q < 8 := fun q hq => by have := PR_lt hP (fun q hq => (h43 q hq).2) q hq; omega
  unfold f_X11_goTurns_L83
  refine wp_loop (fun i (s : Int32 × Int32 × ej_M) => s.1 = nI (ti (LWf P w g k) k Q e i).length ∧ s.2.1 = nI i ∧ oj_sm SG0 m s.2.2 ∧ QM k (ti (LWf P w g k) k Q e i) s.2.2) k (by unfold oj_FU; omega) (fun i s hi hJ => ?_) (fun s hJ => ?_) (i0 := 0) (by omega) ⟨rfl, rfl, sm_refl, hQ⟩
  · obtain ⟨v, v', m1⟩ := s
    obtain ⟨rfl, rfl, i1, i3⟩ := hJ
    simp only at i1 i3 ⊢
    unfold f_X11_goTurns_L83b
    have hW2 := ti_QW (LW := LWf P w g k) hk hW hP h8 hd i
    rw [i1.2 41 4 (by unfold SG0 MC; omega), h4, if_neg (fun q => by have := (nI_leI (by omega) (by omega)).mp q; omega), nI_1]
    refine wp_mono (m_eachIn hk hN hi (MK_go hN (sm_mono i1 fun a j z => SG0_SM z) hK) ((i1.2 41 4 (by unfold SG0 MC; omega)).trans h4) ((i1.2 41 29 (by unfold SG0 MC; omega)).trans h29) (fun q hq => by rw [i1.2 43 q (by unfold SG0 MC; omega)]; exact h43 q hq) hj i3 hW2.1 (hW2.2.subset he) hP (Nat.le_trans hd hW2.2.length_le)) fun t ht => ?_
    cases t with
    | inl s =>
      obtain ⟨t1, t2, t3, t4⟩ := ht
      exact ⟨t1, t2, sm_trans i1 t3, t4⟩
    | inr s => exact ht.elim
  · obtain ⟨v, v', m1⟩ := s
    obtain ⟨rfl, rfl, i1, i3⟩ := hJ
    simp only at i1 i3 ⊢
    unfold f_X11_goTurns_L83b
    rw [i1.2 41 4 (by unfold SG0 MC; omega), h4, if_pos (Int32.le_refl _), nI_1]
    exact wp_inr ⟨rfl, rfl, i1, i3⟩
theorem m_turnsL {P : Option (List (List Int32 × List Int32))} {w : Nat → Int32} {g : Int32} {k N t : Nat} {ρ : Nat → Nat} {m : ej_M} (hk : k ≤ 6) (hN : N ≤ 8) (ht : t < 720) (hK : MK P w g N m) (h4 : m.1 41 4 = nI k) (h29 : m.1 41 29 = nI k) (h43 : ∀ q, q < k → m.1 43 q = nI (ρ q) ∧ ρ q < N) (hj : ∀ p q, p < k → q < k → ρ p = ρ q → p = q) (hQ : QM k [(ρ, 0)] m) :
    oj_wp (f_X11_goTurns_L51 (nI t) 1 0 m) fun q => AnS (LWf P w g k) k ρ t q.1 ∧ oj_sm SG0 m q.2 := by
  have h8 : ∀ q, q < k → ρ q < 8 := fun q hq => by have := (h43 q hq).2; omega
  have hno : ∀ h, (∀ (i : Nat) (e : (Nat → Nat) × Nat), i < h → (qs (LWf P w g k) k ρ h)[i]? = some e → rk e.1 k ≠ t) → (qs (LWf P w g k) k ρ h).length ≤ h → ¬ vis k (qs (LWf P w g k) k ρ h) t = true := fun h i4 e1 hv => by
    obtain ⟨f, f1, f2⟩ := vis_iff.mp hv
    obtain ⟨i, hi⟩ := List.mem_iff_getElem?.mp f1
    have hil : i < (qs (LWf P w g k) k ρ h).length := by
      by_cases z : i < (qs (LWf P w g k) k ρ h).length
      · exact z
      · rw [List.getElem?_eq_none (by omega)] at hi; cases hi
    exact i4 i f (by omega) hi f2
  unfold f_X11_goTurns_L51
  refine wp_loop (fun h (s : Int32 × Int32 × ej_M) => s.1 = nI (qs (LWf P w g k) k ρ h).length ∧ s.2.1 = nI h ∧ oj_sm SG0 m s.2.2 ∧ QM k (qs (LWf P w g k) k ρ h) s.2.2 ∧ ∀ (i : Nat) (e : (Nat → Nat) × Nat), i < h → (qs (LWf P w g k) k ρ h)[i]? = some e → rk e.1 k ≠ t) 720 (by decide) (fun h s hh hJ => ?_) (fun s hJ => ?_) (i0 := 0) (by decide) ⟨rfl, rfl, sm_refl, hQ, fun i e h => absurd h (Nat.not_lt_zero _)⟩
  · obtain ⟨v, v', m1⟩ := s
    obtain ⟨rfl, rfl, i1, i3, i4⟩ := hJ
    simp only at i1 i3 i4 ⊢
    have hW := qs_QW (LW := LWf P w g k) hk hj h8 h
    have hlen := QW_len hW
    unfold f_X11_goTurns_L51b
    by_cases e1 : (qs (LWf P w g k) k ρ h).length ≤ h
    · rw [if_pos ((nI_leI (by omega) (by omega)).mpr e1)]
      exact wp_inr ⟨Or.inr ⟨rfl, h, e1, hno h i4 e1⟩, i1⟩
    rw [if_neg (fun q => e1 ((nI_leI (by omega) (by omega)).mp q))]
    have he : (qs (LWf P w g k) k ρ h)[h]? = some (qs (LWf P w g k) k ρ h)[h] := List.getElem?_eq_getElem (by omega)
    generalize (qs (LWf P w g k) k ρ h)[h] = e at he
    obtain ⟨p1, p2, p3⟩ := hW.1 h e he
    have hm : e ∈ qs (LWf P w g k) k ρ h := List.mem_iff_getElem?.mpr ⟨h, he⟩
    rw [oj_art_ld ar_61 (by omega), o_bs, i3.1 h e he]
    by_cases e2 : rk e.1 k = t
    · rw [if_pos (by rw [e2]), oj_art_ld ar_60 (rk_lt hk), o_bs, i3.2.1 e hm]
      exact wp_inr ⟨Or.inl ⟨h, e, hm, e2, rfl⟩, i1⟩
    rw [if_neg (fun q => e2 (nI_inj (by have := rk_lt (r := e.1) hk; omega) (by omega) q))]
    refine wp_mono (m_each hk hN (MK_go hN (sm_mono i1 fun a j z => SG0_SM z) hK) ((i1.2 41 4 (by unfold SG0 MC; omega)).trans h4) ((i1.2 41 29 (by unfold SG0 MC; omega)).trans h29) (fun q hq => by rw [i1.2 43 q (by unfold SG0 MC; omega)]; exact h43 q hq) hj i3 hW hm p1 (by omega)) fun r hr => ?_
    cases r with
    | inl s =>
      obtain ⟨t1, t2, t3, t4⟩ := hr
      refine ⟨?_, t2, sm_trans i1 t3, ?_, fun i f hi hf => ?_⟩
      · rw [qs_s he]; exact t1
      · rw [qs_s he]; exact t4
      · obtain ⟨l, hl⟩ := (ti_QW (LW := LWf P w g k) hk hW p1 p2 (by omega) k).2
        rw [qs_s he, ← hl, List.getElem?_append_left (by omega)] at hf
        by_cases z : i = h
        · rw [z, he] at hf
          rw [← Option.some.inj hf]
          exact e2
        · exact i4 i f (by omega) hf
    | inr s => exact hr.elim
  · obtain ⟨v, v', m1⟩ := s
    obtain ⟨rfl, rfl, i1, i3, i4⟩ := hJ
    simp only at i1 i3 i4 ⊢
    have hlen := QW_len (qs_QW (LW := LWf P w g k) hk hj h8 720)
    unfold f_X11_goTurns_L51b
    rw [if_pos ((nI_leI (by omega) (by omega)).mpr hlen)]
    exact wp_inr ⟨Or.inr ⟨rfl, 720, hlen, hno 720 i4 hlen⟩, i1⟩
theorem m_goTurns {P : Option (List (List Int32 × List Int32))} {w : Nat → Int32} {g : Int32} {k N t : Nat} {ρ : Nat → Nat} {m : ej_M} (hk : k ≤ 6) (hN : N ≤ 8) (ht : t < 720) (hK : MK P w g N m) (h4 : m.1 41 4 = nI k) (h43 : ∀ q, q < k → m.1 43 q = nI (ρ q) ∧ ρ q < N) (hj : ∀ p q, p < k → q < k → ρ p = ρ q → p = q) :
    oj_wp (f_X11_goTurns (nI t) m) fun q => AnS (LWf P w g k) k ρ t q.1 ∧ oj_sm SM m q.2 := by
  unfold f_X11_goTurns f_X11_goTurns_L2
  refine wp_loop (fun i (s : Int32 × ej_M) => s.1 = nI i ∧ oj_sm (fun a _ => a = 60) m s.2 ∧ ∀ x, x < i → s.2.1 60 x = -1) 720 (by decide) (fun i s hi hJ => ?_) (fun s hJ => ?_) (i0 := 0) (by decide) ⟨rfl, sm_refl, fun q' h => absurd h (Nat.not_lt_zero _)⟩
  · obtain ⟨v, m1⟩ := s
    obtain ⟨rfl, i1, i2⟩ := hJ
    simp only at i1 i2 ⊢
    unfold f_X11_goTurns_L2b
    rw [if_neg (show ¬ (720 : Int32) ≤ nI i from fun q => by have := (nI_leI (a := 720) (by decide) (by omega)).mp q; omega), nar_s1, oj_art_st ar_60 hi, o_bs, nI_1]
    refine wp_inl ⟨rfl, sm_trans i1 (sm_a fun j => rfl), fun x hx => ?_⟩
    simp only
    rw [oj_row_s]
    unfold upd
    by_cases e : x = i
    · rw [if_pos e]
    · rw [if_neg e]; exact i2 x (by omega)
  · obtain ⟨v, m1⟩ := s
    obtain ⟨rfl, i1, i2⟩ := hJ
    simp only at i1 i2 ⊢
    unfold f_X11_goTurns_L2b
    rw [if_pos (show (720 : Int32) ≤ nI 720 from Int32.le_refl _)]
    have hs1 : oj_sm SM m m1 := sm_mono i1 fun a j z => by unfold SM; omega
    refine wp_bind (wp_mono (mk_see (ρ := ρ) (MK_go hN hs1 hK) ((i1.2 41 4 (by omega)).trans h4) (by omega) (fun q hq => ⟨(i1.2 43 q (by omega)).trans (h43 q hq).1, by have := (h43 q hq).2; omega⟩)) fun r hr => ?_)
    obtain ⟨r1, r2, r3⟩ := hr
    rw [m_rank r2 hk (fun q hq => ⟨r3 q hq, by have := (h43 q hq).2; omega⟩), o_bs]
    simp only
    have hR := rk_lt (r := ρ) hk
    rw [nar_s0, oj_art_st ar_60 hR, o_bs, nar_sh _ (by omega), show (0 : Int32) = nI 0 from rfl, oj_art_st ar_61 (by decide), o_bs, oj_row_n (show (61 : Nat) ≠ 60 by decide)]
    have hQ0 : QM k [] r.2 := ⟨fun i e he => (by cases he), fun e he => absurd he List.not_mem_nil, fun x hx _ => by rw [r1.2 60 x (by unfold SE; omega)]; exact i2 x hx⟩
    have hQ1 := m_push (d := 0) (r := ρ) hQ0 (fun z => absurd (show false = true from z) (by decide))
    have hs2 : oj_sm SM r.2 (oj_row (oj_row r.2 60 (upd (r.2.1 60) (rk ρ k) (nI 0))) 61 (upd (r.2.1 61) 0 (nI (rk ρ k)))) := sm_trans (sm_a fun j => by unfold SM; omega) (sm_a fun j => by unfold SM; omega)
    have hs3 := sm_trans hs1 (sm_trans (sm_SE r1) hs2)
    refine wp_map (wp_mono (m_turnsL hk hN ht (MK_go hN hs3 hK) ((hs3.2 41 4 (by unfold SM; omega)).trans h4) ?_ (fun q hq => by rw [hs3.2 43 q (by unfold SM; omega)]; exact h43 q hq) hj hQ1) fun s hs => ?_)
    · rw [oj_row_n (by decide), oj_row_n (by decide)]; exact r2
    · exact ⟨hs.1, sm_trans hs3 (sm_mono hs.2 fun _ _ => SG0_SM)⟩
