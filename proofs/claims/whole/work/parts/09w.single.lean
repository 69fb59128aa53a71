/-! law: one operand -/
theorem stn_0 {v : Nat} : v ∈ stn 0 ↔ v = 119 ∨ v = 108 ∨ v = 114 ∨ v = 107 ∨ v = 110 ∨ v = 115 := by
  show v ∈ [119, 108, 114, 107, 110, 115] ↔ _
  simp only [List.mem_cons, List.not_mem_nil, or_false]
theorem stn_1 {v : Nat} : v ∈ stn 1 ↔ v = 40 := by
  show v ∈ [40] ↔ _
  simp only [List.mem_cons, List.not_mem_nil, or_false]
theorem stn_2 {v : Nat} : v ∈ stn 2 ↔ v = 41 := by
  show v ∈ [41] ↔ _
  simp only [List.mem_cons, List.not_mem_nil, or_false]
theorem stn_3 {v : Nat} : v ∈ stn 3 ↔ v = 33 ∨ v = 45 := by
  show v ∈ [33, 45] ↔ _
  simp only [List.mem_cons, List.not_mem_nil, or_false]
def nix (ch : Nat) : Nat := if ch = 119 then 0 else if ch = 108 then 1 else if ch = 114 then 2 else if ch = 107 then 3 else if ch = 110 then 4 else 5
theorem nix_lt {ch : Nat} : nix ch < 6 := by
  unfold nix
  repeat' split
  all_goals decide
theorem nix_at : ∀ p, p < 6 → nix ((stn 0).getD p 0) = p := by decide
theorem x_index {ch : Nat} {m : ej_M} (hm : m.1 3000 = fun j => (ej_stx.getD 0 []).getD j 0) (h : ch ∈ stn 0) : f_J0_indexOf_0f7a4 2000 ((Int32.toUInt32 (nI ch) % 65536).toInt32) m = some (nI (nix ch), m) := by
  have hb := stn_lt (t := 0) (by decide) h
  obtain ⟨s1, s2⟩ := st_get 0 (by decide)
  rw [x_char ch (by omega)]
  obtain ⟨q, q1, q2, q3⟩ := x_sign (t := 0) (c := ch) (m := m) (by decide) (by omega)
  have q1' : f_J0_indexOf_0f7a4 2000 (nI ch) m = some q := q1
  have hl2 : lk ch = bt ch := if_pos (by omega)
  rw [q1']
  rcases q3 with ⟨p, p1, p2, p3, p4⟩ | ⟨p1, p2⟩
  · have p2' : m.1 3000 p = bt ch := p2
    rw [hm] at p2'
    have e1 : lk ch = nI ((stn 0).getD p 0) := hl2.trans (p2'.symm.trans (s2 p p1).1)
    have e2 := (lk_is (by omega) (s2 p p1).2.1).mp e1
    rw [e2, nix_at p p1]
    exact congrArg some (Prod.ext p4 q2)
  · exfalso
    obtain ⟨p, hp, e2⟩ := mem_getD.mp h
    have hp' : p < ej_sl 0 := by omega
    refine p1 p hp' ?_
    show m.1 3000 p = bt ch
    rw [hm]
    show (ej_stx.getD 0 []).getD p 0 = _
    rw [(s2 p hp').1, e2]
    exact (lk_lo hb.1).symm.trans hl2
theorem m_nm {ch : Nat} {m : ej_M} (hc : ch < 257) : f_X11_nameOf (lk ch) m = some (if ch = 107 then 3 else if ch = 108 then 1 else if ch = 110 then 4 else if ch = 114 then 2 else if ch = 115 then 5 else if ch = 119 then 0 else -1, m) := by
  have e : ∀ v, v < 128 → (lk ch = nI v ↔ ch = v) := fun v hv => lk_is hc hv
  unfold f_X11_nameOf
  rw [show (107 : Int32) = nI 107 from rfl, show (108 : Int32) = nI 108 from rfl, show (110 : Int32) = nI 110 from rfl, show (114 : Int32) = nI 114 from rfl, show (115 : Int32) = nI 115 from rfl, show (119 : Int32) = nI 119 from rfl]
  simp only [e 107 (by decide), e 108 (by decide), e 110 (by decide), e 114 (by decide), e 115 (by decide), e 119 (by decide)]
  by_cases h1 : ch = 107
  · rw [if_pos h1, if_pos h1]
  · rw [if_neg h1, if_neg h1]
    by_cases h2 : ch = 108
    · rw [if_pos h2, if_pos h2]
    · rw [if_neg h2, if_neg h2]
      by_cases h3 : ch = 110
      · rw [if_pos h3, if_pos h3]
      · rw [if_neg h3, if_neg h3]
        by_cases h4 : ch = 114
        · rw [if_pos h4, if_pos h4]
        · rw [if_neg h4, if_neg h4]
          by_cases h5 : ch = 115
          · rw [if_pos h5, if_pos h5]
          · rw [if_neg h5, if_neg h5]
            by_cases h6 : ch = 119
            · rw [if_pos h6, if_pos h6]
            · rw [if_neg h6, if_neg h6]
theorem m_name1 {ch : Nat} {m : ej_M} (h : ch ∈ stn 0) : f_X11_nameOf (lk ch) m = some (nI (nix ch), m) := by
  rcases stn_0.mp h with rfl | rfl | rfl | rfl | rfl | rfl <;> exact (m_nm (by decide)).trans rfl
theorem m_name0 {ch : Nat} {m : ej_M} (hc : ch < 257) (h : ¬ ch ∈ stn 0) : f_X11_nameOf (lk ch) m = some (-1, m) := by
  rw [m_nm hc, if_neg (fun e => h (stn_0.mpr (by omega))), if_neg (fun e => h (stn_0.mpr (by omega))), if_neg (fun e => h (stn_0.mpr (by omega))), if_neg (fun e => h (stn_0.mpr (by omega))), if_neg (fun e => h (stn_0.mpr (by omega))), if_neg (fun e => h (stn_0.mpr (by omega)))]
theorem tk_push {t : Int32} (h : ¬ (t = -59 ∨ t = -63)) (h6 : ¬ t < -6) (d : Nat) : tk_dps d [t] = some (d + 1) := by
  show (tk_dp d t).bind (fun d' => some d') = _
  unfold tk_dp
  rw [if_neg h, if_neg h6]
  rfl
theorem nm_tok : ∀ p, p < 6 → mt_A ((-1) - nI p) = nI 2 ∧ mw ((-1) - nI p) = nI p ∧ ¬ ((-1) - nI p = -59 ∨ (-1) - nI p = -63) ∧ ¬ (-1) - nI p < -6 := by decide +kernel
theorem nI_m6 {v : Nat} (hv : v < 2 ^ 31) : ¬ nI v < (-6 : Int32) := fun q => nI_pos hv (Int32.lt_trans q (by decide))
theorem nu_tok {v : Nat} (hv : v < 2 ^ 31) : mt_A (nI v) = nI 1 ∧ mw (nI v) = nI v ∧ ¬ (nI v = -59 ∨ nI v = -63) ∧ ¬ nI v < -6 := by
  have h6 := nI_m6 hv
  have h0 := nI_pos hv
  refine ⟨?_, ?_, ?_, h6⟩
  · unfold mt_A
    rw [if_neg h6, if_neg h0]
    rfl
  · unfold mw mt_W
    rw [if_neg h6, if_neg h0]
  · rintro (e | e)
    · exact h6 (by rw [e]; decide)
    · exact h6 (by rw [e]; decide)
theorem m_is {l i v : Nat} {c : Nat → Nat} (hc : HC l c) (hv : v < 128) : lk (c i) = nI v ↔ c i = v := lk_is (HC_lt hc) hv
theorem m_opens {m : ej_M} {i b o : Nat} {f : Int32} {A W : Nat → Int32} (h : o < 6) : f_X11_opens (mT m i f (nI o) b A W) = some (1, mT m (i + 1) f (nI (o + 1)) b A W) := by
  unfold f_X11_opens
  rw [mT_18, if_neg (fun q => by have := (nI_eq (b := 6) (by omega) (by decide)).mp q; omega)]
  unfold oj_pf
  rw [o_bs, nI_1, mT_w18, mT_16, nI_1, o_bs, mT_w16]
theorem m_opens6 {m : ej_M} {i b : Nat} {A W : Nat → Int32} : f_X11_opens (mT m i (-1) (nI 6) b A W) = some (0, mT m i (nI i) (nI 6) b A W) := by
  unfold f_X11_opens
  rw [mT_18, if_pos (by decide), m_faulty, o_bs]
section
variable {l : Nat} {c : Nat → Nat} {m : ej_M} {i b o : Nat} {A W : Nat → Int32}
theorem m_opBang {R : ((ej_M → Option (Unit × ej_M)) × (ej_M → Option (Unit × ej_M)) × (ej_M → Option (Unit × ej_M)) × (ej_M → Option (Unit × ej_M)) × (ej_M → Option (Unit × ej_M)) × (ej_M → Option (Unit × ej_M)))} (hc : HC l c) (hT : TpM l c m) (hi : i ≤ l) (h : c i = 33 ∨ c i = 45) : f_X11_operand_e R (mT m i (-1) (nI o) b A W) = f_X11_operand_B46 R (lk (c i)) (mT m i (-1) (nI o) b A W) := by
  unfold f_X11_operand_e
  rw [m_look hc hT hi, o_bs, m_name0 (HC_lt hc) (fun q => by have := stn_0.mp q; omega), o_bs, if_pos (show (-1 : Int32) < 0 by decide)]
  rcases h with h | h
  · rw [if_pos (show lk (c i) = 33 from (m_is (v := 33) hc (by decide)).mpr h)]
  · rw [if_neg (show ¬ lk (c i) = 33 from fun q => by have := (m_is (v := 33) hc (by decide)).mp q; omega), if_pos (show lk (c i) = 45 from (m_is (v := 45) hc (by decide)).mpr h)]
theorem m_opPar {R : ((ej_M → Option (Unit × ej_M)) × (ej_M → Option (Unit × ej_M)) × (ej_M → Option (Unit × ej_M)) × (ej_M → Option (Unit × ej_M)) × (ej_M → Option (Unit × ej_M)) × (ej_M → Option (Unit × ej_M)))} (hc : HC l c) (hT : TpM l c m) (hi : i ≤ l) (h : c i = 40) : f_X11_operand_e R (mT m i (-1) (nI o) b A W) = (f_X11_opens (mT m i (-1) (nI o) b A W)).bind fun q4 =>
          if q4.1 = 0 then
            some ((), q4.2)
          else
            (R.1 q4.2).bind fun q5 =>
            if (q5.2.1 41 17) < 0 then
              (f_X11_look q5.2).bind fun q6 =>
              if q6.1 = 41 then
                (oj_pf q6.2 41 16 ((q6.2.1 41 16) + 1)).bind fun m7 =>
                (oj_pf m7 41 18 ((m7.1 41 18) - 1)).bind fun m8 =>
                some ((), m8)
              else
                (f_X11_faulty q6.2).bind fun q9 =>
                some ((), q9.2)
            else
              some ((), q5.2) := by
  unfold f_X11_operand_e
  rw [m_look hc hT hi, o_bs, m_name0 (HC_lt hc) (fun q => by have := stn_0.mp q; omega), o_bs, if_pos (show (-1 : Int32) < 0 by decide),
    if_neg (show ¬ lk (c i) = 33 from fun q => by have := (m_is (v := 33) hc (by decide)).mp q; omega), if_neg (show ¬ lk (c i) = 45 from fun q => by have := (m_is (v := 45) hc (by decide)).mp q; omega), if_pos (show lk (c i) = 40 from (m_is (v := 40) hc (by decide)).mpr h)]
theorem m_opElse {R : ((ej_M → Option (Unit × ej_M)) × (ej_M → Option (Unit × ej_M)) × (ej_M → Option (Unit × ej_M)) × (ej_M → Option (Unit × ej_M)) × (ej_M → Option (Unit × ej_M)) × (ej_M → Option (Unit × ej_M)))} (hc : HC l c) (hT : TpM l c m) (hi : i ≤ l) (h0 : ¬ c i ∈ stn 0) (h33 : c i ≠ 33) (h45 : c i ≠ 45) (h40 : c i ≠ 40) : f_X11_operand_e R (mT m i (-1) (nI o) b A W) = (f_X11_figure (mT m i (-1) (nI o) b A W)).bind fun q3 => some ((), q3.2) := by
  unfold f_X11_operand_e
  rw [m_look hc hT hi, o_bs, m_name0 (HC_lt hc) h0, o_bs, if_pos (show (-1 : Int32) < 0 by decide),
    if_neg (show ¬ lk (c i) = 33 from fun q => h33 ((m_is (v := 33) hc (by decide)).mp q)), if_neg (show ¬ lk (c i) = 45 from fun q => h45 ((m_is (v := 45) hc (by decide)).mp q)), if_neg (show ¬ lk (c i) = 40 from fun q => h40 ((m_is (v := 40) hc (by decide)).mp q))]
theorem m_opName {R : ((ej_M → Option (Unit × ej_M)) × (ej_M → Option (Unit × ej_M)) × (ej_M → Option (Unit × ej_M)) × (ej_M → Option (Unit × ej_M)) × (ej_M → Option (Unit × ej_M)) × (ej_M → Option (Unit × ej_M)))} (hc : HC l c) (hT : TpM l c m) (hi : i ≤ l) (hb : b < 130) (h0 : c i ∈ stn 0) : f_X11_operand_e R (mT m i (-1) (nI o) b A W) = some ((), mT m (i + 1) (-1) (nI o) (b + 1) (upd A (130 + b) (nI 2)) (upd W (130 + b) (nI (nix (c i))))) := by
  have hx := nix_lt (ch := c i)
  unfold f_X11_operand_e
  rw [m_look hc hT hi, o_bs, m_name1 h0, o_bs, if_neg (nI_pos (by omega)), m_name1 h0, o_bs, show (2 : Int32) = nI 2 from rfl, m_step (by decide) hb, o_bs]
  unfold oj_pf
  rw [o_bs, mT_16, nI_1, mT_w16]
end
