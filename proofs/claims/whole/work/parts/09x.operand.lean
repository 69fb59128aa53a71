/-! law: one operand on both sides -/
def gm (lev : Nat) (R : (ej_M → Option (Unit × ej_M)) × (ej_M → Option (Unit × ej_M)) × (ej_M → Option (Unit × ej_M)) × (ej_M → Option (Unit × ej_M)) × (ej_M → Option (Unit × ej_M)) × (ej_M → Option (Unit × ej_M))) : ej_M → Option (Unit × ej_M) := match lev with
  | 0 => R.1
  | 1 => R.2.1
  | 2 => R.2.2.1
  | 3 => R.2.2.2.1
  | 4 => R.2.2.2.2.1
  | _ => R.2.2.2.2.2
def ES (l : Nat) (c : Nat → Nat) (o i : Nat) : Prop := ∃ i' r, WR l i i' r ∧ (∀ n, 7 * (6 - o) + 1 ≤ n → CX l c ((g_X2_readLevel n).2 (nI o)) i i' r) ∧ ∀ n, 7 * (6 - o) + 1 ≤ n → CM l c (g_X11_either n).2.2.2.2.2 o i i' r
def EL (l : Nat) (c : Nat → Nat) (lev o i : Nat) : Prop := ∃ i' r, WR l i i' r ∧ (∀ n, 7 * (6 - o) + 7 - lev ≤ n → CX l c ((g_X2_readLevel n).1 (nI lev) (nI o)) i i' r) ∧ ∀ n, 7 * (6 - o) + 7 - lev ≤ n → CM l c (gm lev (g_X11_either n)) o i i' r
theorem n_succ {k n : Nat} (h : k + 1 ≤ n) : ∃ n', n = n' + 1 ∧ k ≤ n' := ⟨n - 1, by omega, by omega⟩
theorem WR_none {l i i' : Nat} (h1 : i ≤ i') (h2 : i' ≤ l) : WR l i i' none := ⟨h1, h2, fun ts e => by cases e⟩
theorem WR_some {l i i' : Nat} {ts : List Int32} (h1 : i ≤ i') (h2 : i' ≤ l) (h3 : i + ts.length ≤ i') (h4 : ∀ d, tk_dps d ts = some (d + 1)) (h5 : ∀ t, t ∈ ts → tb t) : WR l i i' (some ts) := ⟨h1, h2, fun ts' e => by cases e; exact ⟨h3, h4, h5⟩⟩
-- nothing fits at i
theorem es_no {l : Nat} {c : Nat → Nat} {o i : Nat} (hi : i ≤ l)
    (hX : ∀ (R : ((Int32 → Int32 → ej_M → Option (Int32 × ej_M)) × (Int32 → ej_M → Option (Int32 × ej_M)))) (m : ej_M) (b : Nat) (g : Nat → Int32), TpX l c m → b ≤ i → f_X2_readSingle_e R (nI o) (xT m i b g) = some (0, xT m i b g))
    (hM : ∀ (R : ((ej_M → Option (Unit × ej_M)) × (ej_M → Option (Unit × ej_M)) × (ej_M → Option (Unit × ej_M)) × (ej_M → Option (Unit × ej_M)) × (ej_M → Option (Unit × ej_M)) × (ej_M → Option (Unit × ej_M)))) (m : ej_M) (b : Nat) (A W : Nat → Int32), TpM l c m → b ≤ i → ∃ o' b' A' W', f_X11_operand_e R (mT m i (-1) (nI o) b A W) = some ((), mT m i (nI i) o' b' A' W') ∧ (b ≤ b' ∧ b' ≤ b + 1) ∧ ∀ j, j < 130 + b → A' j = A j ∧ W' j = W j) : ES l c o i := by
  refine ⟨i, none, WR_none (Nat.le_refl _) hi, fun n hn => ?_, fun n hn => ?_⟩
  · obtain ⟨n, rfl, hn⟩ := n_succ hn
    exact CX_none fun m b g hT hb => ⟨0, b, g, hX _ m b g hT hb, Or.inl rfl, by omega⟩
  · obtain ⟨n, rfl, hn⟩ := n_succ hn
    refine CM_none fun m b A W hT hb => ?_
    obtain ⟨o', b', A', W', e1, e2, e3⟩ := hM (g_X11_either n) m b A W hT hb
    exact ⟨o', b', A', W', e1, by omega, e3⟩
theorem es_number {l : Nat} {c : Nat → Nat} (hc : HC l c) {o i : Nat} (hi : i ≤ l) (hd : dg (c i)) : ES l c o i := by
  have hl := hc.1
  obtain ⟨k, k1, k2, k3⟩ := dg_k c i 4
  have hk0 : 1 ≤ k := by
    by_cases h : k = 0
    · subst h
      rcases k3 with k3 | k3
      · omega
      · exact absurd hd k3
    · omega
  have hil : i + k ≤ l := by
    have h1 := k2 (k - 1) (by omega)
    have := HC_in hc (i := i + (k - 1)) (by have := h1.2; omega)
    omega
  have hn0 : ¬ c i ∈ stn 0 := fun q => by have := stn_0.mp q; have := hd.2; omega
  have hd1 := hd.1
  have hd2 := hd.2
  have hv : vn c i k < 2 ^ 31 := by
    have h1 := vn_lt k k2
    have h2 : 10 ^ k ≤ 10 ^ 4 := Nat.pow_le_pow_right (by decide) k1
    omega
  have eX : ∀ (R : ((Int32 → Int32 → ej_M → Option (Int32 × ej_M)) × (Int32 → ej_M → Option (Int32 × ej_M)))) (m : ej_M) (b : Nat) (g : Nat → Int32), TpX l c m → b ≤ i → f_X2_readSingle_e R (nI o) (xT m i b g) = some (1, xT m (i + k) (b + 1) (upd g b (nI (vn c i k)))) := fun R m b g hT hb => by
    unfold f_X2_readSingle_e
    rw [x_seen hc hT hi, o_bs, x_isd1 hc hd, o_bs, if_neg i10, x_numb hc hT (by omega) k1 hil k2 k3, o_bs]
    unfold oj_rz
    rw [if_pos (Or.inr rfl)]
  by_cases hw : dg (c (i + k))
  · refine ⟨i + k, none, WR_none (by omega) hil, fun n hn => ?_, fun n hn => ?_⟩
    · obtain ⟨n, rfl, hn⟩ := n_succ hn
      exact CX_none fun m b g hT hb => ⟨1, b + 1, _, eX _ m b g hT hb, Or.inr ⟨rfl, hw⟩, by omega⟩
    · obtain ⟨n, rfl, hn⟩ := n_succ hn
      refine CM_none fun m b A W hT hb => ?_
      refine ⟨nI o, b + 1, upd A (130 + b) (nI 1), upd W (130 + b) (nI (vn c i k)), ?_, by omega, fun j hj => ⟨if_neg (by omega), if_neg (by omega)⟩⟩
      show f_X11_operand_e (g_X11_either n) (mT m i (-1) (nI o) b A W) = _
      rw [m_opElse hc hT hi hn0 (by omega) (by omega) (by omega), m_figure0 hc hT (by omega) k1 hil k2 k3 (Or.inr hw), o_bs]
  · obtain ⟨t1, t2, t3, t4⟩ := nu_tok hv
    refine ⟨i + k, some [nI (vn c i k)], WR_some (by omega) hil (by show i + 1 ≤ i + k; omega) (tk_push t3 t4) (fun t ht => by rw [List.mem_singleton.mp ht]; exact ⟨1, by decide, t1⟩), fun n hn => ?_, fun n hn => ?_⟩
    · obtain ⟨n, rfl, hn⟩ := n_succ hn
      exact CX_some fun m b g hT hb => eX _ m b g hT hb
    · obtain ⟨n, rfl, hn⟩ := n_succ hn
      refine CM_some fun m b A W hT hb => ?_
      show f_X11_operand_e (g_X11_either n) (mT m i (-1) (nI o) b A W) = some ((), mT m (i + k) (-1) (nI o) (b + 1) (upd A (130 + b) (mt_A (nI (vn c i k)))) (upd W (130 + b) (mw (nI (vn c i k)))))
      rw [t1, t2, m_opElse hc hT hi hn0 (by omega) (by omega) (by omega), m_figure1 hc hT (by omega) k1 hk0 hil k2 hw, o_bs]
theorem es_name {l : Nat} {c : Nat → Nat} (hc : HC l c) {o i : Nat} (hi : i ≤ l) (h : c i ∈ stn 0) : ES l c o i := by
  have hl := hc.1
  have hlt := stn_lt (t := 0) (by decide) h
  have hil : i < l := HC_in hc (by omega)
  have hnd : ¬ dg (c i) := fun q => by have := stn_0.mp h; have := q.2; omega
  obtain ⟨t1, t2, t3, t4⟩ := nm_tok (nix (c i)) nix_lt
  refine ⟨i + 1, some [(-1) - nI (nix (c i))], WR_some (by omega) (by omega) (Nat.le_refl _) (tk_push t3 t4) (fun t ht => by rw [List.mem_singleton.mp ht]; exact ⟨2, by decide, t1⟩), fun n hn => ?_, fun n hn => ?_⟩
  · obtain ⟨n, rfl, hn⟩ := n_succ hn
    refine CX_some fun m b g hT hb => ?_
    show f_X2_readSingle_e (g_X2_readLevel n) (nI o) (xT m i b g) = some (1, xT m (i + 1) (b + 1) (upd g b ((-1) - nI (nix (c i)))))
    unfold f_X2_readSingle_e
    rw [x_seen hc hT hi, o_bs, x_isd0 hc hnd, o_bs, if_pos rfl, x_pass1 (t := 0) rfl (by decide) hc hT hi h, o_bs, if_neg (fun q => by have := (nI_eq0 (by omega)).mp q; omega),
      show oj_sv 2000 = some 3000 from oj_sv0, o_bs, x_index ((xT_n (by decide) (by decide)).trans (hT.2.2 0 (by decide))) h, o_bs, x_emit (by omega), o_bs]
  · obtain ⟨n, rfl, hn⟩ := n_succ hn
    refine CM_some fun m b A W hT hb => ?_
    show f_X11_operand_e (g_X11_either n) (mT m i (-1) (nI o) b A W) = some ((), mT m (i + 1) (-1) (nI o) (b + 1) (upd A (130 + b) (mt_A ((-1) - nI (nix (c i))))) (upd W (130 + b) (mw ((-1) - nI (nix (c i))))))
    rw [t1, t2]
    exact m_opName hc hT hi (by omega) h
theorem x_single0 {l i b : Nat} {c : Nat → Nat} {m : ej_M} {g : Nat → Int32} {v1 : Int32} {R : ((Int32 → Int32 → ej_M → Option (Int32 × ej_M)) × (Int32 → ej_M → Option (Int32 × ej_M)))} (hc : HC l c) (hT : TpX l c m) (hi : i ≤ l) (hnd : ¬ dg (c i)) (h0 : ¬ c i ∈ stn 0) :
    f_X2_readSingle_e R v1 (xT m i b g) = if v1 < 6 then
        (f_X2_passed (2001) (xT m i b g)).bind fun q4 =>
        if q4.1 = 0 then
          (f_X2_passed (2003) q4.2).bind fun q5 =>
          if q5.1 = 0 then
            some (0, q5.2)
          else
            (R.2 (v1 + 1) q5.2).bind fun q6 =>
            if q6.1 = 0 then
              some (0, q6.2)
            else
              if q5.1 = 33 then
                f_X2_readSingle_B121 R (-33) q6.2
              else
                f_X2_readSingle_B121 R (-126) q6.2
        else
          (R.1 0 (v1 + 1) q4.2).bind fun q7 =>
          if q7.1 = 0 then
            some (0, q7.2)
          else
            (f_X2_passed (2002) q7.2).bind fun q8 =>
            if q8.1 = 0 then
              some (0, q8.2)
            else
              some (1, q8.2)
      else
        some (0, xT m i b g) := by
  unfold f_X2_readSingle_e
  rw [x_seen hc hT hi, o_bs, x_isd0 hc hnd, o_bs, if_pos rfl, x_pass0 (t := 0) rfl (by decide) hc hT hi h0, o_bs, if_pos rfl]
theorem o_lt6 {o : Nat} (h : o < 6) : nI o < (6 : Int32) := (nI_ltI (b := 6) (by omega) (by decide)).mpr h
-- six are left unclosed already
theorem es_deep {l : Nat} {c : Nat → Nat} (hc : HC l c) {i : Nat} (hi : i ≤ l) (hnd : ¬ dg (c i)) (h0 : ¬ c i ∈ stn 0) : ES l c 6 i := by
  have hl := hc.1
  refine es_no hi (fun R m b g hT hb => ?_) (fun R m b A W hT hb => ?_)
  · rw [x_single0 hc hT hi hnd h0, if_neg (show ¬ nI 6 < (6 : Int32) by decide)]
  · by_cases h1 : c i = 33 ∨ c i = 45
    · refine ⟨nI 6, b, A, W, ?_, by omega, fun j hj => ⟨rfl, rfl⟩⟩
      rw [m_opBang hc hT hi h1]
      unfold f_X11_operand_B46
      rw [m_opens6, o_bs, if_pos rfl]
    · by_cases h2 : c i = 40
      · refine ⟨nI 6, b, A, W, ?_, by omega, fun j hj => ⟨rfl, rfl⟩⟩
        rw [m_opPar hc hT hi h2, m_opens6, o_bs, if_pos rfl]
      · refine ⟨nI 6, b + 1, upd A (130 + b) (nI 1), upd W (130 + b) (nI (vn c i 0)), ?_, by omega, fun j hj => ⟨if_neg (by omega), if_neg (by omega)⟩⟩
        rw [m_opElse hc hT hi h0 (by omega) (by omega) (by omega), m_figure0 (k := 0) hc hT (by omega) (by decide) hi (fun j hj => absurd hj (Nat.not_lt_zero _)) (Or.inr hnd) (Or.inl rfl), o_bs]
        rfl
-- none of the signs that begin an operand
theorem es_else {l : Nat} {c : Nat → Nat} (hc : HC l c) {o i : Nat} (hi : i ≤ l) (ho : o < 6) (hnd : ¬ dg (c i)) (h0 : ¬ c i ∈ stn 0) (h33 : c i ≠ 33) (h45 : c i ≠ 45) (h40 : c i ≠ 40) : ES l c o i := by
  have hl := hc.1
  refine es_no hi (fun R m b g hT hb => ?_) (fun R m b A W hT hb => ?_)
  · rw [x_single0 hc hT hi hnd h0, if_pos (o_lt6 ho), x_pass0 (t := 1) rfl (by decide) hc hT hi (fun q => h40 (stn_1.mp q)), o_bs, if_pos rfl, x_pass0 (t := 3) rfl (by decide) hc hT hi (fun q => by have := stn_3.mp q; omega), o_bs, if_pos rfl]
  · refine ⟨nI o, b + 1, upd A (130 + b) (nI 1), upd W (130 + b) (nI (vn c i 0)), ?_, by omega, fun j hj => ⟨if_neg (by omega), if_neg (by omega)⟩⟩
    rw [m_opElse hc hT hi h0 h33 h45 h40, m_figure0 (k := 0) hc hT (by omega) (by decide) hi (fun j hj => absurd hj (Nat.not_lt_zero _)) (Or.inr hnd) (Or.inl rfl), o_bs]
    rfl
