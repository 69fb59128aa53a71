/-! fewest: the search, in the first, whole -/
theorem QX_goal {LW : (Nat → Nat) → Bool} {k t : Nat} {ρ : Nat → Nat} {Q : List ((Nat → Nat) × Nat)} {m : ej_M} (ht : t < 720) (hW : QW k ρ Q) (hQ : QX LW k ρ Q m) : (∃ e, e ∈ Q ∧ rk e.1 k = t ∧ m.1 32 t = nI e.2 ∧ e.2 < 720) ∨ (¬ vis k Q t = true ∧ m.1 32 t < 0) := by
  have hlen := QW_len hW
  by_cases hv : vis k Q t = true
  · obtain ⟨e, e1, e2⟩ := vis_iff.mp hv
    obtain ⟨i, hi⟩ := List.mem_iff_getElem?.mp e1
    have h2 := (hW.1 i e hi).2.2
    have hil : i < Q.length := by
      by_cases z : i < Q.length
      · exact z
      · rw [List.getElem?_eq_none (by omega)] at hi; cases hi
    exact Or.inl ⟨e, e1, e2, by rw [← e2]; exact hQ.2.2.1 e e1, by omega⟩
  · refine Or.inr ⟨hv, ?_⟩
    rcases hQ.2.2.2 t ht hv with h | ⟨h, _⟩
    · rw [h]; decide
    · rw [h]; decide
theorem x_turnsL {P : Option (List (List Int32 × List Int32))} {w : Nat → Int32} {g : Int32} {k b t : Nat} {ρ : Nat → Nat} {m : ej_M} (hk : k ≤ 6) (hb : b < 2 ^ 28) (ht : t < 720) (hj : ∀ p q, p < k → q < k → ρ p = ρ q → p = q) (h8 : ∀ q, q < k → ρ q < 8) (hK : XK P w g m) (hC : CN P k b m) (hQ : QX (LWf P w g k) k ρ [(ρ, 0)] m) :
    oj_wp (f_X9_fewestTurns_L69 (nI k) (nI t) 0 m) fun q => AnS (LWf P w g k) k ρ t q.1 ∧ oj_sm SF2 m q.2 ∧ CN P k b q.2 := by
  unfold f_X9_fewestTurns_L69
  have key : ∀ (h : Nat) (m1 : ej_M), oj_sm SF2 m m1 → CN P k b m1 → QX (LWf P w g k) k ρ (qs (LWf P w g k) k ρ h) m1 → ((qs (LWf P w g k) k ρ h).length ≤ h ∨ 0 ≤ m1.1 32 t) → oj_wp (f_X9_fewestTurns_B136 (nI t) m1) fun q => AnS (LWf P w g k) k ρ t q.1 ∧ oj_sm SF2 m q.2 ∧ CN P k b q.2 := fun h m1 i1 i2 i3 hor => by
    have hW := qs_QW (LW := LWf P w g k) hk hj h8 h
    unfold f_X9_fewestTurns_B136
    rw [p_at1 ar_32 ht, o_bs]
    simp only
    rcases QX_goal ht hW i3 with ⟨e, e1, e2, e3, e4⟩ | ⟨z1, z2⟩
    · rw [e3, if_pos (nI_0le (by omega)), p_at1 ar_32 ht, o_bs]
      simp only
      rw [e3]
      exact wp_some ⟨Or.inl ⟨h, e, e1, e2, rfl⟩, i1, i2⟩
    · rw [if_neg (neg_nle z2)]
      rcases hor with l | l
      · exact wp_some ⟨Or.inr ⟨rfl, h, l, z1⟩, i1, i2⟩
      · exact absurd l (neg_nle z2)
  refine wp_loop (fun h (s : Int32 × ej_M) => s.1 = nI h ∧ oj_sm SF2 m s.2 ∧ CN P k b s.2 ∧ QX (LWf P w g k) k ρ (qs (LWf P w g k) k ρ h) s.2) 720 (by decide) (fun h s hh hJ => ?_) (fun s hJ => ?_) (i0 := 0) (by decide) ⟨rfl, sm_refl, hC, hQ⟩
  · obtain ⟨v, m1⟩ := s
    obtain ⟨rfl, i1, i2, i3⟩ := hJ
    simp only at i1 i2 i3 ⊢
    have hW := qs_QW (LW := LWf P w g k) hk hj h8 h
    have hlen := QW_len hW
    unfold f_X9_fewestTurns_L69b
    rw [if_neg (show ¬ (720 : Int32) ≤ nI h from fun q => by have := (nI_leI (a := 720) (by decide) (by omega)).mp q; omega), i3.1]
    by_cases e1 : (qs (LWf P w g k) k ρ h).length ≤ h
    · rw [if_pos ((nI_leI (by omega) (by omega)).mpr e1)]
      exact wp_map (wp_mono (key h m1 i1 i2 i3 (Or.inl e1)) fun q hq => hq)
    rw [if_neg (fun q => e1 ((nI_leI (by omega) (by omega)).mp q)), p_at1 ar_32 ht, o_bs]
    simp only
    by_cases e2 : 0 ≤ m1.1 32 t
    · rw [if_pos e2]
      exact wp_map (wp_mono (key h m1 i1 i2 i3 (Or.inr e2)) fun q hq => hq)
    rw [if_neg e2, p_at1 ar_33 (by omega), o_bs]
    simp only
    have he : (qs (LWf P w g k) k ρ h)[h]? = some (qs (LWf P w g k) k ρ h)[h] := List.getElem?_eq_getElem (by omega)
    generalize (qs (LWf P w g k) k ρ h)[h] = e at he
    obtain ⟨p1, p2, p3⟩ := hW.1 h e he
    rw [i3.2.1 h e he]
    refine wp_bind (wp_mono (x_unpack hk p2) fun q hq => ?_)
    obtain ⟨q1, q2⟩ := hq
    rw [x_rank ar_30 hk hk (fun q' hq' => ⟨q2 q' hq', p2 q' hq'⟩), o_bs]
    simp only
    have hQ2 : QX (LWf P w g k) k ρ (qs (LWf P w g k) k ρ h) q.2 := QX_fr q1 i3 (by omega) (fun i => by omega) (fun i => by omega)
    rw [p_at1 ar_32 (rk_lt hk), o_bs]
    simp only
    have hs : oj_sm SF2 m q.2 := sm_trans i1 (sm_mono q1 fun a j z => Or.inr z)
    rw [hQ2.2.2.1 e (List.mem_iff_getElem?.mpr ⟨h, he⟩), nI_1]
    refine wp_bind (wp_mono (x_each hk hb (XK_go (sm_mono hs fun _ _ => SF2_SX) hK) (CN_fr q1 i2 (fun i => by omega) (by omega) (by omega) (fun i _ => by omega)) hQ2 hW (fun q' hq' => ⟨q2 q' hq', p2 q' hq'⟩) p1 (by omega)) fun r hr => ?_)
    obtain ⟨r1, r2, r3⟩ := hr
    rw [nI_1]
    refine wp_inl ⟨rfl, sm_trans hs (sm_mono r1 fun a j z => Or.inl z), r2, ?_⟩
    rw [qs_s he]
    exact r3
  · obtain ⟨v, m1⟩ := s
    obtain ⟨rfl, i1, i2, i3⟩ := hJ
    simp only at i1 i2 i3 ⊢
    have hlen := QW_len (qs_QW (LW := LWf P w g k) hk hj h8 720)
    unfold f_X9_fewestTurns_L69b
    rw [if_pos (show (720 : Int32) ≤ nI 720 from Int32.le_refl _)]
    exact wp_map (wp_mono (key 720 m1 i1 i2 i3 (Or.inl hlen)) fun q hq => hq)
theorem x_fewestTurns {P : Option (List (List Int32 × List Int32))} {w : Nat → Int32} {g : Int32} {k b : Nat} {ρ τ : Nat → Nat} {m : ej_M} (hk : k ≤ 6) (hb : b < 2 ^ 28) (hj : ∀ p q, p < k → q < k → ρ p = ρ q → p = q) (h4 : m.1 6 4 = nI k) (h8 : ∀ q, q < k → m.1 8 q = nI (ρ q) ∧ ρ q < 8) (hτ : ∀ q, q < k → m.1 29 q = nI (τ q) ∧ τ q < 8) (hK : XK P w g m) (hC : CN P k b m) :
    oj_wp (f_X9_fewestTurns m) fun q => AnS (LWf P w g k) k ρ (rk τ k) q.1 ∧ oj_sm SF2 m q.2 ∧ CN P k b q.2 := by
  unfold f_X9_fewestTurns
  rw [h4, x_rank ar_29 hk hk hτ, o_bs]
  simp only
  unfold f_X9_fewestTurns_L19
  refine wp_loop (fun i (s : Int32 × ej_M) => s.1 = nI i ∧ oj_sm (fun a _ => a = 32) m s.2 ∧ ∀ x, x < i → s.2.1 32 x = -1) 720 (by decide) (fun i s hi hJ => ?_) (fun s hJ => ?_) (i0 := 0) (by decide) ⟨rfl, sm_refl, fun q' h => absurd h (Nat.not_lt_zero _)⟩
  · obtain ⟨v, m1⟩ := s
    obtain ⟨rfl, i1, i2⟩ := hJ
    simp only at i1 i2 ⊢
    unfold f_X9_fewestTurns_L19b
    rw [if_neg (show ¬ (720 : Int32) ≤ nI i from fun q => by have := (nI_leI (a := 720) (by decide) (by omega)).mp q; omega), p_lay1 ar_32 hi, o_bs, nI_1]
    refine wp_inl ⟨rfl, sm_trans i1 (sm_a fun j => rfl), fun x hx => ?_⟩
    simp only
    rw [oj_row_s]
    unfold upd
    by_cases e : x = i
    · rw [if_pos e]
    · rw [if_neg e]; exact i2 x (by omega)
  · obtain ⟨v, m1⟩ := s
    obtain ⟨rfl, i1, i2⟩ := hJ
    simp only at i1 i2 ⊢
    unfold f_X9_fewestTurns_L19b oj_pf
    rw [if_pos (show (720 : Int32) ≤ nI 720 from Int32.le_refl _), o_bs, x_copy ar_8 ar_31 (by decide) (by omega) hk (by omega), o_bs]
    simp only
    have hs : oj_sm (fun a j => a = 32 ∨ a = 31 ∨ (a = 28 ∧ j = 6)) m (oj_row (ej_w m1 28 6 0) 31 (o_cp k ((ej_w m1 28 6 0).1 8) ((ej_w m1 28 6 0).1 31))) :=
      sm_trans (sm_mono i1 fun a j z => Or.inl z) (sm_trans (sm_w (by omega)) (sm_a fun j => by omega))
    generalize hm2 : oj_row (ej_w m1 28 6 0) 31 (o_cp k ((ej_w m1 28 6 0).1 8) ((ej_w m1 28 6 0).1 31)) = m2 at hs
    have h31 : ∀ q, q < k → m2.1 31 q = nI (ρ q) ∧ ρ q < 8 := fun q hq => by
      rw [← hm2, oj_row_s]
      unfold o_cp
      rw [if_pos hq, w_place (by decide), i1.2 8 q (by omega)]
      exact h8 q hq
    have h32 : ∀ x, x < 720 → m2.1 32 x = -1 := fun x hx => by
      rw [← hm2, oj_row_n (by decide), w_place (by decide)]
      exact i2 x hx
    have h28 : m2.1 28 6 = nI 0 := by
      rw [← hm2, oj_row_n (by decide), w_same]
      rfl
    have hQ0 : QX (LWf P w g k) k ρ [] m2 := ⟨h28, fun i e he => (by cases he), fun e he => absurd he List.not_mem_nil, fun x hx _ => Or.inl (h32 x hx)⟩
    unfold f_X9_reach
    rw [x_rank ar_31 hk hk h31, o_bs]
    simp only
    rw [p_at1 ar_32 (rk_lt hk), o_bs]
    simp only
    rw [h32 _ (rk_lt hk), if_pos rfl, if_pos (show (0 : Int32) ≤ 0 by decide)]
    refine wp_bind (wp_mono (x_push (d := 0) hk hQ0 (by decide) h31 (fun z => absurd (show false = true from z) (by decide))) fun t ht => ?_)
    obtain ⟨t1, t2, t3⟩ := ht
    have hs3 : oj_sm SF2 m t.2 := sm_trans (sm_mono hs fun a j z => by unfold SF2 SF1 SF0; omega) (sm_mono t1 fun a j z => Or.inl (Or.inl z))
    refine wp_map (wp_mono (x_turnsL hk hb (rk_lt (r := τ) hk) hj (fun q hq => (h8 q hq).2) (XK_go (sm_mono hs3 fun _ _ => SF2_SX) hK) (CN_fr (S := fun a j => a = 32 ∨ a = 31 ∨ a = 33 ∨ (a = 28 ∧ j = 6)) (sm_trans (sm_mono hs fun a j z => by omega) (sm_mono t2 fun a j z => by omega)) hC (fun i => by omega) (by omega) (by omega) (fun i _ => by omega)) t3) fun r hr => ?_)
    exact ⟨hr.1, sm_trans hs3 hr.2.1, hr.2.2⟩
