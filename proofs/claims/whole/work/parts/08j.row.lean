/-! take, set -/
theorem inj_le : ∀ (n k : Nat) (ρ : Nat → Nat), (∀ p, p < k → ρ p < n) → (∀ p q, p < k → q < k → ρ p = ρ q → p = q) → k ≤ n := by
  intro n
  induction n with
  | zero =>
    intro k ρ h _
    by_cases h0 : k = 0
    · omega
    · have := h 0 (by omega); omega
  | succ n ih =>
    intro k ρ h hj
    by_cases hn : ∃ p, p < k ∧ ρ p = n
    · obtain ⟨p, hp, hpn⟩ := hn
      have := ih (k - 1) (fun q => if q < p then ρ q else ρ (q + 1)) (fun q hq => ?_) (fun q r hq hr e => ?_)
      · omega
      · by_cases e : q < p
        · rw [if_pos e]
          have h1 := h q (by omega)
          have : ρ q ≠ n := fun e2 => by have := hj q p (by omega) hp (e2.trans hpn.symm); omega
          omega
        · rw [if_neg e]
          have h1 := h (q + 1) (by omega)
          have : ρ (q + 1) ≠ n := fun e2 => by have := hj (q + 1) p (by omega) hp (e2.trans hpn.symm); omega
          omega
      · by_cases e1 : q < p
        · rw [if_pos e1] at e
          by_cases e2 : r < p
          · rw [if_pos e2] at e; exact hj q r (by omega) (by omega) e
          · rw [if_neg e2] at e; have := hj q (r + 1) (by omega) (by omega) e; omega
        · rw [if_neg e1] at e
          by_cases e2 : r < p
          · rw [if_pos e2] at e; have := hj (q + 1) r (by omega) (by omega) e; omega
          · rw [if_neg e2] at e; have := hj (q + 1) (r + 1) (by omega) (by omega) e; omega
    · have := ih k ρ (fun p hp => by
        have h1 := h p hp
        have : ρ p ≠ n := fun e => hn ⟨p, hp, e⟩
        omega) hj
      omega
/-- the row without its place p -/
def r_rm (p : Nat) (ρ : Nat → Nat) (q : Nat) : Nat := if p ≤ q then ρ (q + 1) else ρ q
/-- the row with a stone more at its place p -/
def r_in (p s : Nat) (ρ : Nat → Nat) (q : Nat) : Nat := if q = p then s else if p < q then ρ (q - 1) else ρ q
theorem op_take (v : Int32) : OP (f_X10_take v) (f_X11_take v) := by
  intro L xs b m ⟨n, k, ρ, P, nb, hI, hC⟩ hb
  obtain ⟨h1, h2, h3, h4, h5, h6, h7, h8, h9, h10, h11, h12, h13, h14, h15⟩ := id hI.1
  unfold f_X10_take
  rcases r_cases v k with ⟨p, hp, rfl⟩ | hN
  · rw [x_placeY h5 (by omega) hp, o_bs, if_neg i10, p_at1 ar_8 (by omega), o_bs]
    simp only
    rw [h5, x_remove ar_8 (by omega) (by omega) hp, o_bs]
    unfold oj_pf
    rw [o_bs]
    simp only
    rw [oj_row_n (by decide), h5, nI_m1 (by omega)]
    have b1 : oj_sm (fun a j => a = 8 ∨ (a = 6 ∧ j = 4)) m (ej_w (oj_row m 8 (o_rm k p (m.1 8))) 6 4 (nI (k - 1))) := by
      refine sm_trans (sm_row fun j hj => absurd (Or.inl rfl) hj) (sm_w (Or.inr ⟨rfl, rfl⟩))
    have b2 : (ej_w (oj_row m 8 (o_rm k p (m.1 8))) 6 4 (nI (k - 1))).1 6 4 = nI (k - 1) := w_same
    have b3 : ∀ q, q < k - 1 → (ej_w (oj_row m 8 (o_rm k p (m.1 8))) 6 4 (nI (k - 1))).1 8 q = nI (r_rm p ρ q) ∧ r_rm p ρ q < n := fun q hq => by
      rw [w_place (by decide), oj_row_s]
      unfold o_rm r_rm
      by_cases e : p ≤ q
      · rw [if_pos ⟨e, by omega⟩, if_pos e]; exact ⟨(h8 (q + 1) (by omega)).1, (h8 (q + 1) (by omega)).2.2⟩
      · rw [if_neg (by omega), if_neg e]; exact ⟨(h8 q (by omega)).1, (h8 q (by omega)).2.2⟩
    have b4 : ∀ q r, q < k - 1 → r < k - 1 → r_rm p ρ q = r_rm p ρ r → q = r := fun q r hq hr e => by
      unfold r_rm at e
      by_cases e1 : p ≤ q
      · rw [if_pos e1] at e
        by_cases e2 : p ≤ r
        · rw [if_pos e2] at e; have := h9 (q + 1) (r + 1) (by omega) (by omega) e; omega
        · rw [if_neg e2] at e; have := h9 (q + 1) r (by omega) (by omega) e; omega
      · rw [if_neg e1] at e
        by_cases e2 : p ≤ r
        · rw [if_pos e2] at e; have := h9 q (r + 1) (by omega) (by omega) e; omega
        · rw [if_neg e2] at e; exact h9 q r (by omega) (by omega) e
    have b5 : CB P b (ej_w (oj_row m 8 (o_rm k p (m.1 8))) 6 4 (nI (k - 1))) := CB_congr hC (fun i _ => by rw [w_place (by decide), oj_row_n (by decide)]) (by rw [w_other (by omega), oj_row_n (by decide)]) (by rw [w_other (by omega), oj_row_n (by decide)]) (fun i _ => by rw [w_place (by decide), oj_row_n (by decide)])
    have b6 : LX P (ej_w (oj_row m 8 (o_rm k p (m.1 8))) 6 4 (nI (k - 1))) := LX_congr (b1.2 1 6 (by omega)) (fun j _ => b1.2 4 j (by omega)) h14
    generalize ej_w (oj_row m 8 (o_rm k p (m.1 8))) 6 4 (nI (k - 1)) = m1 at *
    refine wp_bind (wp_mono (x_lead b6 b2 (by omega) (fun q hq => ⟨(b3 q hq).1, by have := (b3 q hq).2; omega⟩) b5 (by unfold oST at hb; omega)) fun q hq => ?_)
    obtain ⟨q1, q2, q3, q4⟩ := hq
    have y : ∀ a j, ¬ (a = 8 ∨ a = 5 ∨ a = 10 ∨ a = 6) → q.2.1 a j = m.1 a j := fun a j h => by
      rw [q1.2 a j (by unfold sXL XC; omega), b1.2 a j (by omega)]
    have y43 : q.2.1 43 = m.1 43 := funext fun j => y 43 j (by omega)
    refine wp_some ⟨⟨funext fun j => y 4000 j (by omega), funext fun j => y 4001 j (by omega)⟩, ?_⟩
    simp only
    generalize q.2 = m2 at *
    unfold f_X11_take
    rw [m_placeY (by rw [y 41 4 (by omega)]; exact h6) (by omega) hp, o_bs, if_neg i10, oj_ar_ld ar_43 (by omega), o_bs]
    unfold oj_pf
    rw [o_bs]
    simp only
    rw [y 41 4 (by omega), h6, nI_m1 (by omega), y43]
    unfold f_X11_take_L29
    have e4 : (ej_w m2 41 4 (nI (k - 1))).1 41 4 = nI (k - 1) := w_same
    have e43 : (ej_w m2 41 4 (nI (k - 1))).1 43 = m.1 43 := by rw [w_place (by decide), y43]
    have s3 : oj_sm (fun a j => a = 43 ∨ (a = 41 ∧ j = 4) ∨ SE a j) m2 (ej_w m2 41 4 (nI (k - 1))) := sm_w (Or.inr (Or.inl ⟨rfl, rfl⟩))
    generalize ej_w m2 41 4 (nI (k - 1)) = m3 at *
    refine wp_up (fun i => oj_row m3 43 (fun q => if p ≤ q ∧ q < i then m.1 43 (q + 1) else m.1 43 q)) (n := k - 1) (i0 := p) (by omega) (by omega) ?_ (fun i hpi hi => ?_) ?_
    · have : (fun q => if p ≤ q ∧ q < p then m.1 43 (q + 1) else m.1 43 q) = m3.1 43 := by
        rw [e43]; exact funext fun j => if_neg (by omega)
      simp only [this, oj_row_id]
    · simp only
      unfold f_X11_take_L29b
      rw [oj_row_n (by decide), e4, if_neg (fun q => by have := (nI_leI (by omega) (by omega)).mp q; omega), nI_1, oj_ar_ld ar_43 (by omega), o_bs, oj_row_s]
      rw [if_neg (by omega), oj_ar_st ar_43 (by omega), o_bs, oj_row_row, oj_row_s]
      have : upd (fun q => if p ≤ q ∧ q < i then m.1 43 (q + 1) else m.1 43 q) i (m.1 43 (i + 1)) = (fun q => if p ≤ q ∧ q < i + 1 then m.1 43 (q + 1) else m.1 43 q) := by
        funext j
        unfold upd
        by_cases e : j = i
        · rw [if_pos e, if_pos (by omega), e]
        · simp only [if_neg e]
          by_cases e2 : p ≤ j ∧ j < i
          · rw [if_pos e2, if_pos (by omega)]
          · rw [if_neg e2, if_neg (by omega)]
      rw [this]
    · simp only
      unfold f_X11_take_L29b
      rw [oj_row_n (by decide), e4, if_pos (Int32.le_refl _)]
      have c1 : oj_sm (fun a j => a = 43 ∨ (a = 41 ∧ j = 4) ∨ SE a j) m2 (oj_row m3 43 (fun q => if p ≤ q ∧ q < k - 1 then m.1 43 (q + 1) else m.1 43 q)) := sm_trans s3 (sm_row fun j hj => absurd (Or.inl rfl) hj)
      have c2 : (oj_row m3 43 (fun q => if p ≤ q ∧ q < k - 1 then m.1 43 (q + 1) else m.1 43 q)).1 41 4 = nI (k - 1) := by rw [oj_row_n (by decide)]; exact e4
      have c3 : ∀ q, q < k - 1 → (oj_row m3 43 (fun q => if p ≤ q ∧ q < k - 1 then m.1 43 (q + 1) else m.1 43 q)).1 43 q = nI (r_rm p ρ q) := fun q hq => by
        rw [oj_row_s]
        unfold r_rm
        by_cases e : p ≤ q
        · rw [if_pos ⟨e, by omega⟩, if_pos e]; exact (h8 (q + 1) (by omega)).2.1
        · rw [if_neg (by omega), if_neg e]; exact (h8 q (by omega)).2.1
      generalize oj_row m3 43 (fun q => if p ≤ q ∧ q < k - 1 then m.1 43 (q + 1) else m.1 43 q) = m4 at *
      have hL4 : LM P m4 := by
        have f : ∀ a, (a = 49 ∨ a = 50 ∨ a = 51 ∨ a = 52 ∨ a = 53) → m4.1 a = m.1 a := fun a ha => funext fun j => by
          rw [c1.2 a j (by unfold SE; omega), y a j (by omega)]
        exact LM_congr (by rw [c1.2 41 27 (by unfold SE; omega), y 41 27 (by omega)]) (f 51 (by omega)) (f 49 (by omega)) (f 50 (by omega)) (f 52 (by omega)) (f 53 (by omega)) h15
      refine wp_bind (wp_mono (m_lead hL4 c2 (by omega) (fun q hq => ⟨c3 q hq, by have := (b3 q hq).2; omega⟩)) fun r hr => ?_)
      obtain ⟨r1, r2, r3⟩ := hr
      refine wp_inr ⟨?_, ?_⟩
      · simp only
        rw [(h8 p hp).1, (h8 p hp).2.1]
      · obtain ⟨z1, z2⟩ := both_lead hI (by omega) b1 b2 b3 b4 q1 q2 q3 q4 c1 c2 c3 r1 r2 r3
        exact ⟨n, k - 1, r_rm p ρ, P, nb, z1, CB_le z2 (by unfold oST; omega)⟩
  · rw [x_placeN h5 (by omega) hN, o_bs, if_pos rfl]
    refine wp_some ⟨⟨rfl, rfl⟩, ?_⟩
    unfold f_X11_take
    rw [m_placeN h6 (by omega) hN, o_bs, if_pos rfl]
    exact wp_some ⟨rfl, n, k, ρ, P, nb, hI, CB_step hC⟩
