/-! law: the levels on both sides -/
theorem sg_tok : ∀ lev, lev < 5 → ∀ ch, ch ∈ stn (4 + lev) → mt_A (-nI ch) = nI ch ∧ mw (-nI ch) = 0 ∧ ¬ (-nI ch = -59 ∨ -nI ch = -63) ∧ -nI ch < -6 ∧ ¬ (-nI ch = -33 ∨ -nI ch = -126) ∧ ¬ (48 ≤ ch ∧ ch ≤ 57) := by decide +kernel
theorem sg_dg {lev ch : Nat} (hl : lev < 5) (h : dg ch) : ¬ ch ∈ stn (4 + lev) := fun q => (sg_tok lev hl ch q).2.2.2.2.2 h
theorem tk_two {t : Int32} (h : ¬ (t = -59 ∨ t = -63)) (h6 : t < -6) (h1 : ¬ (t = -33 ∨ t = -126)) (d : Nat) : tk_dp (d + 1 + 1) t = some (d + 1) := by
  unfold tk_dp
  rw [if_neg h, if_pos h6, if_neg h1, if_pos (by omega)]
  rfl
theorem stn_4 {v : Nat} : v ∈ stn 4 ↔ v = 124 := by
  show v ∈ [124] ↔ _
  simp only [List.mem_cons, List.not_mem_nil, or_false]
theorem stn_5 {v : Nat} : v ∈ stn 5 ↔ v = 38 := by
  show v ∈ [38] ↔ _
  simp only [List.mem_cons, List.not_mem_nil, or_false]
theorem stn_6 {v : Nat} : v ∈ stn 6 ↔ v = 60 ∨ v = 61 ∨ v = 62 := by
  show v ∈ [60, 61, 62] ↔ _
  simp only [List.mem_cons, List.not_mem_nil, or_false]
theorem stn_7 {v : Nat} : v ∈ stn 7 ↔ v = 43 ∨ v = 45 := by
  show v ∈ [43, 45] ↔ _
  simp only [List.mem_cons, List.not_mem_nil, or_false]
theorem stn_8 {v : Nat} : v ∈ stn 8 ↔ v = 42 ∨ v = 47 ∨ v = 37 := by
  show v ∈ [42, 47, 37] ↔ _
  simp only [List.mem_cons, List.not_mem_nil, or_false]
theorem x_signs {lev : Nat} {m : ej_M} (h : lev < 5) : f_X2_signsOf (nI lev) m = some (2000 + (4 + lev), m) := by
  rcases (by omega : lev = 0 ∨ lev = 1 ∨ lev = 2 ∨ lev = 3 ∨ lev = 4) with rfl | rfl | rfl | rfl | rfl <;> rfl
abbrev xRf : Type := ((Int32 → Int32 → ej_M → Option (Int32 × ej_M)) × (Int32 → ej_M → Option (Int32 × ej_M)))
abbrev mRf : Type := ((ej_M → Option (Unit × ej_M)) × (ej_M → Option (Unit × ej_M)) × (ej_M → Option (Unit × ej_M)) × (ej_M → Option (Unit × ej_M)) × (ej_M → Option (Unit × ej_M)) × (ej_M → Option (Unit × ej_M)))
def xLb (R : xRf) (lev o : Nat) (most : Int32) (q : Int32 × ej_M) : Option ((Int32 × ej_M) ⊕ (Int32 × ej_M)) := f_X2_readLevel_L39b R (nI lev) (nI o) most q.1 q.2
section
variable {l : Nat} {c : Nat → Nat} {m : ej_M} {i b lev o : Nat} {g : Nat → Int32}
-- no sign of this level at i
theorem xLb_no {R : xRf} {most v4 : Int32} (hc : HC l c) (hT : TpX l c m) (hi : i ≤ l) (hl : lev < 5) (h : ¬ c i ∈ stn (4 + lev)) : xLb R lev o most (v4, xT m i b g) = some (Sum.inr (1, xT m i b g)) := by
  unfold xLb f_X2_readLevel_L39b
  by_cases z : most ≤ v4
  · rw [if_pos z]
  · rw [if_neg z, x_signs hl, o_bs, x_pass0 (t := 4 + lev) rfl (by omega) hc hT hi h, o_bs, if_pos rfl]
theorem xLb_yes {R : xRf} {most v4 : Int32} (hc : HC l c) (hT : TpX l c m) (hi : i ≤ l) (hl : lev < 5) (h : c i ∈ stn (4 + lev)) (hm : ¬ most ≤ v4) : xLb R lev o most (v4, xT m i b g) = (R.1 (nI (lev + 1)) (nI o) (xT m (i + 1) b g)).bind fun q3 =>
      if q3.1 = 0 then
        some (Sum.inr (0, q3.2))
      else
        (f_X2_emit (-nI (c i)) q3.2).bind fun q4 =>
        some (Sum.inl ((v4 + 1), q4.2)) := by
  have hs := stn_lt (t := 4 + lev) (by omega) h
  unfold xLb f_X2_readLevel_L39b
  rw [if_neg hm, x_signs hl, o_bs, x_pass1 (t := 4 + lev) rfl (by omega) hc hT hi h, o_bs, if_neg (fun q => by have := (nI_eq0 (by omega)).mp q; omega), nI_1]
end
def mLb (lev : Nat) (R : mRf) : ej_M → Option (ej_M ⊕ (Unit × ej_M)) := match lev with
  | 0 => fun m => f_X11_either_L4b R m
  | 1 => fun m => f_X11_both_L4b R m
  | 3 => fun m => f_X11_sum_L4b R m
  | _ => fun m => f_X11_product_L4b R m
section
variable {l : Nat} {c : Nat → Nat} {m : ej_M} {i b lev : Nat} {f o : Int32} {A W : Nat → Int32} {R : mRf}
theorem mLb_end (h : 0 ≤ f) (hl : lev = 0 ∨ lev = 1 ∨ lev = 3 ∨ lev = 4) : mLb lev R (mT m i f o b A W) = some (Sum.inr ((), mT m i f o b A W)) := by
  rcases hl with rfl | rfl | rfl | rfl
  · show f_X11_either_L4b R (mT m i f o b A W) = _
    unfold f_X11_either_L4b
    rw [mT_17, if_pos h]
  · show f_X11_both_L4b R (mT m i f o b A W) = _
    unfold f_X11_both_L4b
    rw [mT_17, if_pos h]
  · show f_X11_sum_L4b R (mT m i f o b A W) = _
    unfold f_X11_sum_L4b
    rw [mT_17, if_pos h]
  · show f_X11_product_L4b R (mT m i f o b A W) = _
    unfold f_X11_product_L4b
    rw [mT_17, if_pos h]
theorem lk_no {v : Nat} (hc : HC l c) (hv : v < 128) (h : c i ≠ v) : ¬ lk (c i) = nI v := fun q => h ((m_is hc hv).mp q)
theorem mLb_no (hc : HC l c) (hT : TpM l c m) (hi : i ≤ l) (hl : lev = 0 ∨ lev = 1 ∨ lev = 3 ∨ lev = 4) (h : ¬ c i ∈ stn (4 + lev)) : mLb lev R (mT m i (-1) o b A W) = some (Sum.inr ((), mT m i (-1) o b A W)) := by
  have hf : ¬ (0 : Int32) ≤ -1 := by decide
  rcases hl with rfl | rfl | rfl | rfl
  · show f_X11_either_L4b R (mT m i (-1) o b A W) = _
    unfold f_X11_either_L4b
    rw [mT_17, if_neg hf, m_look hc hT hi, o_bs, if_neg (show ¬ lk (c i) = 124 from lk_no (v := 124) hc (by decide) fun q => h (stn_4.mpr q))]
  · show f_X11_both_L4b R (mT m i (-1) o b A W) = _
    unfold f_X11_both_L4b
    rw [mT_17, if_neg hf, m_look hc hT hi, o_bs, if_neg (show ¬ lk (c i) = 38 from lk_no (v := 38) hc (by decide) fun q => h (stn_5.mpr q))]
  · show f_X11_sum_L4b R (mT m i (-1) o b A W) = _
    unfold f_X11_sum_L4b
    rw [mT_17, if_neg hf, m_look hc hT hi, o_bs, if_neg (show ¬ lk (c i) = 43 from lk_no (v := 43) hc (by decide) fun q => h (stn_7.mpr (Or.inl q))), m_look hc hT hi, o_bs, if_neg (show ¬ lk (c i) = 45 from lk_no (v := 45) hc (by decide) fun q => h (stn_7.mpr (Or.inr q)))]
  · show f_X11_product_L4b R (mT m i (-1) o b A W) = _
    unfold f_X11_product_L4b
    rw [mT_17, if_neg hf, m_look hc hT hi, o_bs, if_neg (show ¬ lk (c i) = 42 from lk_no (v := 42) hc (by decide) fun q => h (stn_8.mpr (Or.inl q))), m_look hc hT hi, o_bs, if_neg (show ¬ lk (c i) = 47 from lk_no (v := 47) hc (by decide) fun q => h (stn_8.mpr (Or.inr (Or.inl q)))), m_look hc hT hi, o_bs, if_neg (show ¬ lk (c i) = 37 from lk_no (v := 37) hc (by decide) fun q => h (stn_8.mpr (Or.inr (Or.inr q))))]
theorem mLb_yes (hc : HC l c) (hT : TpM l c m) (hi : i ≤ l) (hl : lev = 0 ∨ lev = 1 ∨ lev = 3 ∨ lev = 4) (h : c i ∈ stn (4 + lev)) : mLb lev R (mT m i (-1) o b A W) = (gm (lev + 1) R (mT m (i + 1) (-1) o b A W)).bind fun q3 => (f_X11_addStep (nI (c i)) 0 q3.2).bind fun q4 => some (Sum.inl q4.2) := by
  have hf : ¬ (0 : Int32) ≤ -1 := by decide
  have hs := stn_lt (t := 4 + lev) (by omega) h
  have hk : lk (c i) = nI (c i) := lk_lo hs.1
  rcases hl with rfl | rfl | rfl | rfl
  · have h1 := stn_4.mp h
    show f_X11_either_L4b R (mT m i (-1) o b A W) = _
    unfold f_X11_either_L4b
    rw [mT_17, if_neg hf, m_look hc hT hi, o_bs, if_pos (show lk (c i) = 124 from (m_is (v := 124) hc (by decide)).mpr h1)]
    unfold oj_pf
    rw [o_bs, mT_16, nI_1, mT_w16, h1]
    rfl
  · have h1 := stn_5.mp h
    show f_X11_both_L4b R (mT m i (-1) o b A W) = _
    unfold f_X11_both_L4b
    rw [mT_17, if_neg hf, m_look hc hT hi, o_bs, if_pos (show lk (c i) = 38 from (m_is (v := 38) hc (by decide)).mpr h1)]
    unfold oj_pf
    rw [o_bs, mT_16, nI_1, mT_w16, h1]
    rfl
  · have h1 := stn_7.mp h
    have hB : f_X11_sum_B29 R (mT m i (-1) o b A W) = (gm (3 + 1) R (mT m (i + 1) (-1) o b A W)).bind fun q3 => (f_X11_addStep (nI (c i)) 0 q3.2).bind fun q4 => some (Sum.inl q4.2) := by
      unfold f_X11_sum_B29
      rw [m_look hc hT hi, o_bs, hk]
      unfold oj_pf
      rw [o_bs, mT_16, nI_1, mT_w16]
      rfl
    show f_X11_sum_L4b R (mT m i (-1) o b A W) = _
    unfold f_X11_sum_L4b
    rw [mT_17, if_neg hf, m_look hc hT hi, o_bs]
    by_cases z : c i = 43
    · rw [if_pos (show lk (c i) = 43 from (m_is (v := 43) hc (by decide)).mpr z)]
      exact hB
    · rw [if_neg (show ¬ lk (c i) = 43 from lk_no (v := 43) hc (by decide) z), m_look hc hT hi, o_bs, if_pos (show lk (c i) = 45 from (m_is (v := 45) hc (by decide)).mpr (by omega))]
      exact hB
  · have h1 := stn_8.mp h
    have hB : f_X11_product_B38 R (mT m i (-1) o b A W) = (gm (4 + 1) R (mT m (i + 1) (-1) o b A W)).bind fun q3 => (f_X11_addStep (nI (c i)) 0 q3.2).bind fun q4 => some (Sum.inl q4.2) := by
      unfold f_X11_product_B38
      rw [m_look hc hT hi, o_bs, hk]
      unfold oj_pf
      rw [o_bs, mT_16, nI_1, mT_w16]
      rfl
    show f_X11_product_L4b R (mT m i (-1) o b A W) = _
    unfold f_X11_product_L4b
    rw [mT_17, if_neg hf, m_look hc hT hi, o_bs]
    by_cases z : c i = 42
    · rw [if_pos (show lk (c i) = 42 from (m_is (v := 42) hc (by decide)).mpr z)]
      exact hB
    · rw [if_neg (show ¬ lk (c i) = 42 from lk_no (v := 42) hc (by decide) z), m_look hc hT hi, o_bs]
      by_cases z2 : c i = 47
      · rw [if_pos (show lk (c i) = 47 from (m_is (v := 47) hc (by decide)).mpr z2)]
        exact hB
      · rw [if_neg (show ¬ lk (c i) = 47 from lk_no (v := 47) hc (by decide) z2), m_look hc hT hi, o_bs, if_pos (show lk (c i) = 37 from (m_is (v := 37) hc (by decide)).mpr (by omega))]
        exact hB
end
