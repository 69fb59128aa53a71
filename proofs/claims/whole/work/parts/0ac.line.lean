/-! law: one line on both sides -/
theorem mT_row {m : ej_M} {i b a : Nat} {f o : Int32} {A W F : Nat → Int32} (h1 : a ≠ 41) (h2 : a ≠ 49) (h3 : a ≠ 50) : oj_row (mT m i f o b A W) a F = mT (oj_row m a F) i f o b A W := by
  refine Prod.ext (funext fun x => ?_) rfl
  show (if x = a then F else if x = 41 then upd (upd (upd (upd (m.1 41) 16 (nI i)) 17 f) 18 o) 19 (nI b) else if x = 49 then A else if x = 50 then W else m.1 x) = (if x = 41 then upd (upd (upd (upd ((oj_row m a F).1 41) 16 (nI i)) 17 f) 18 o) 19 (nI b) else if x = 49 then A else if x = 50 then W else if x = a then F else m.1 x)
  by_cases e : x = a
  · rw [if_pos e, if_neg (by omega), if_neg (by omega), if_neg (by omega), if_pos e]
  · rw [if_neg e, oj_row_n (fun q => h1 q.symm), if_neg e]
theorem TpM_row {l a : Nat} {c : Nat → Nat} {m : ej_M} {F : Nat → Int32} (h : TpM l c m) (h1 : a ≠ 41) (h2 : a ≠ 48) : TpM l c (oj_row m a F) := by
  refine ⟨?_, fun i hi => ?_⟩
  · rw [oj_row_n (fun q => h1 q.symm)]; exact h.1
  · rw [oj_row_n (fun q => h2 q.symm)]; exact h.2 i hi
theorem TpM_sm {l : Nat} {c : Nat → Nat} {S : Nat → Nat → Prop} {m m' : ej_M} (h : TpM l c m) (hs : oj_sm S m m') (h1 : ¬ S 41 15) (h2 : ∀ j, ¬ S 48 j) : TpM l c m' := ⟨(hs.2 41 15 h1).trans h.1, fun i hi => (hs.2 48 i (h2 i)).trans (h.2 i hi)⟩
def SL (k a j : Nat) : Prop := (a = 51 ∧ j = 1) ∨ ((a = 52 ∨ a = 53) ∧ 61 + k ≤ j)
def mB6 (m : ej_M) (k : Nat) (v : Int32) : ej_M := oj_row (oj_row m 53 (upd (m.1 53) (61 + k) v)) 51 (upd (m.1 51) 1 (nI (k + 1)))
theorem sm_B6 {m : ej_M} {k : Nat} {v : Int32} : oj_sm (SL k) m (mB6 m k v) := sm_trans (sm_upd (show SL k 53 (61 + k) from Or.inr ⟨Or.inr rfl, Nat.le_refl _⟩)) (sm_upd (show SL k 51 1 from Or.inl ⟨rfl, rfl⟩))
theorem sm_52 {m : ej_M} {k : Nat} {v : Int32} : oj_sm (SL k) m (oj_row m 52 (upd (m.1 52) (61 + k) v)) := sm_upd (Or.inr ⟨Or.inl rfl, Nat.le_refl _⟩)
theorem mB6_51 {m : ej_M} {k : Nat} {v : Int32} : (mB6 m k v).1 51 1 = nI (k + 1) := rfl
theorem mB6_52 {m : ej_M} {k : Nat} {v : Int32} : (mB6 m k v).1 52 = m.1 52 := rfl
theorem mB6_53 {m : ej_M} {k : Nat} {v : Int32} : (mB6 m k v).1 53 (61 + k) = v := by
  show upd (m.1 53) (61 + k) v (61 + k) = v
  exact if_pos rfl
theorem ld_51 (m : ej_M) : oj_ld 0 m 51 1 = some (m.1 51 1) := oj_ar_ld (k := 1) ar_51 (by decide) m
theorem ld_510 (m : ej_M) : oj_ld 0 m 51 0 = some (m.1 51 0) := oj_ar_ld (k := 0) ar_51 (by decide) m
theorem st_51 (m : ej_M) (v : Int32) : oj_st 0 m 51 1 v = some (oj_row m 51 (upd (m.1 51) 1 v)) := oj_ar_st (k := 1) ar_51 (by decide) m v
theorem st_510 (m : ej_M) (v : Int32) : oj_st 0 m 51 0 v = some (oj_row m 51 (upd (m.1 51) 0 v)) := oj_ar_st (k := 0) ar_51 (by decide) m v
theorem m_B66 {m : ej_M} {i b k : Nat} {f o : Int32} {A W : Nat → Int32} (h51 : m.1 51 1 = nI k) (hk : k < 61) : f_X11_line_B66 (nI (61 + k)) (mT m i f o b A W) = some ((), mT (mB6 m k (vp_nar .short ((Int32.toInt16 (nI b)).toInt32))) i f o b A W) := by
  unfold f_X11_line_B66
  rw [mT_19, oj_art_st ar_53 (by omega), o_bs, mT_row (by decide) (by decide) (by decide), mT_n (by decide) (by decide) (by decide), ld_51, o_bs, st_51, o_bs, mT_n (by decide) (by decide) (by decide), oj_row_n (by decide), h51, nI_1, mT_row (by decide) (by decide) (by decide)]
  rfl
def mLn (v : Int32) (q3 : Unit × ej_M) : Option (Unit × ej_M) := if 0 ≤ (q3.2.1 41 17) then f_X11_line_B66 v q3.2 else (f_X11_look q3.2).bind fun q4 =>
    if q4.1 = 63 then
      (oj_pf q4.2 41 16 ((q4.2.1 41 16) + 1)).bind fun m5 =>
      (oj_st 2 m5 52 v (vp_nar .short ((Int32.toInt16 (m5.1 41 19)).toInt32))).bind fun m6 =>
      (f_X11_either oj_RF m6).bind fun q7 =>
      f_X11_line_B66 v q7.2
    else
      f_X11_line_B66 v q4.2
theorem m_line0 {m : ej_M} {i b k : Nat} {f o : Int32} {A W : Nat → Int32} (h51 : m.1 51 1 = nI k) (hk : k < 61) (hb : b < 800) : f_X11_line (mT m i f o b A W) = (f_X11_either oj_RF (mT (oj_row m 52 (upd (m.1 52) (61 + k) (nI b))) i f o b A W)).bind (mLn (nI (61 + k))) := by
  have e61 : (61 : Int32) + nI k = nI (61 + k) := nI_add 61 k
  unfold f_X11_line
  rw [ld_51, o_bs, mT_n (by decide) (by decide) (by decide), h51, e61, mT_19, nar_sh b hb, oj_art_st ar_52 (by omega), o_bs, mT_row (by decide) (by decide) (by decide), mT_n (by decide) (by decide) (by decide)]
  rfl
theorem stn_9 {v : Nat} : v ∈ stn 9 ↔ v = 63 := by
  show v ∈ [63] ↔ _
  simp only [List.mem_cons, List.not_mem_nil, or_false]
theorem stn_10 {v : Nat} : v ∈ stn 10 ↔ v = 59 := by
  show v ∈ [59] ↔ _
  simp only [List.mem_cons, List.not_mem_nil, or_false]
theorem line_E {l : Nat} {c : Nat → Nat} (hc : HC l c) {i : Nat} (hi : i ≤ l) : ∃ i' r, WR l i i' r ∧ CX l c (f_X2_readLevel oj_RF 0 0) i i' r ∧ CM l c (f_X11_either oj_RF) 0 i i' r := by
  obtain ⟨i', r, w, hX, hM⟩ := el_0 hc hi
  exact ⟨i', r, w, hX oj_RF (by unfold oj_RF; decide), hM oj_RF (by unfold oj_RF; decide)⟩
theorem line_0 {b : List Int32} : tk_line ([], b) = b ++ [-59] := by
  unfold tk_line
  rw [if_pos rfl]
  rfl
theorem line_1 {t b : List Int32} (h : t ≠ []) : tk_line (t, b) = t ++ -63 :: (b ++ [-59]) := by
  unfold tk_line
  rw [if_neg h]
  show (t ++ [-63]) ++ (b ++ [-59]) = _
  rw [List.append_assoc]
  rfl
theorem dps_ne {t : List Int32} (h : tk_dps 0 t = some 1) : 1 ≤ t.length := by
  cases t with
  | nil => cases h
  | cons a t => exact Nat.le_add_left 1 _
def LR (l i i' : Nat) (r : Option (List Int32 × List Int32)) : Prop := i ≤ i' ∧ i' ≤ l ∧ ∀ q, r = some q → i + 1 ≤ i' ∧ i + (tk_line q).length ≤ i' + 1 ∧ tk_wfl q ∧ ∀ t, t ∈ q.1 ++ q.2 → tb t
def LXo (l : Nat) (c : Nat → Nat) (i i' : Nat) (r : Option (List Int32 × List Int32)) : Prop := ∀ (m : ej_M) (b : Nat) (g : Nat → Int32), TpX l c m → b ≤ i →
  (∀ q, r = some q → f_X2_readLine (xT m i b g) = some (1, xT m i' (b + (tk_line q).length) (apL g b (tk_line q))))
  ∧ (r = none → ∃ v b' g', f_X2_readLine (xT m i b g) = some (v, xT m i' b' g') ∧ (v = 0 ∨ v = 1 ∧ dg (c i')))
def LMo (l : Nat) (c : Nat → Nat) (i i' : Nat) (r : Option (List Int32 × List Int32)) : Prop := ∀ (m : ej_M) (b : Nat) (A W : Nat → Int32) (k : Nat), TpM l c m → b ≤ i → m.1 51 1 = nI k → k < 61 →
  (∀ q, r = some q → ∃ m', f_X11_line (mT m i (-1) (nI 0) b A W) = some ((), mT m' i' (-1) (nI 0) (b + q.1.length + q.2.length) (apL A (130 + b) ((q.1 ++ q.2).map mt_A)) (apL W (130 + b) ((q.1 ++ q.2).map mw))) ∧ oj_sm (SL k) m m' ∧ m'.1 51 1 = nI (k + 1) ∧ m'.1 52 (61 + k) = nI (b + q.1.length) ∧ m'.1 53 (61 + k) = nI (b + q.1.length + q.2.length))
  ∧ (r = none → ∃ m' o' b' A' W', f_X11_line (mT m i (-1) (nI 0) b A W) = some ((), mT m' i' (nI i') o' b' A' W') ∧ oj_sm (SL k) m m' ∧ ∀ j, j < 130 + b → A' j = A j ∧ W' j = W j)
theorem line_ex {l : Nat} {c : Nat → Nat} (hc : HC l c) {i : Nat} (hi : i ≤ l) : ∃ i' r, LR l i i' r ∧ LXo l c i i' r ∧ LMo l c i i' r := by
  have hl := hc.1
  have hf1 : ¬ (0 : Int32) ≤ -1 := by decide
  obtain ⟨i1, r1, ⟨w1, w2, w3⟩, hX, hM⟩ := line_E hc hi
  cases r1 with
  | none =>
    refine ⟨i1, none, ⟨w1, w2, fun q e => (by cases e)⟩, fun m b g hT hb => ⟨fun q e => (by cases e), fun _ => ?_⟩, fun m b A W k hT hb h51 hk => ⟨fun q e => (by cases e), fun _ => ?_⟩⟩
    · obtain ⟨v, b', g', e1, e2, e3⟩ := CX_n hX hT (b := b) (g := g) hb
      rcases e2 with rfl | ⟨rfl, e2⟩
      · refine ⟨0, b', g', ?_, Or.inl rfl⟩
        unfold f_X2_readLine
        rw [e1, o_bs, if_pos rfl]
      · obtain ⟨g2, eg⟩ := x_emitAny (m := m) (i := i1) (b := b') (g := g') (v := -59) (by omega)
        refine ⟨1, b' + 1, g2, ?_, Or.inr ⟨rfl, e2⟩⟩
        unfold f_X2_readLine
        rw [e1, o_bs, if_neg i10, x_pass0 (t := 9) rfl (by decide) hc hT w2 (fun q => by have := stn_9.mp q; have := e2.2; omega), o_bs, if_pos rfl]
        unfold f_X2_readLine_B37
        rw [eg, o_bs]
    · obtain ⟨o', b', A', W', e1, e2, e3⟩ := CM_n hM (TpM_row (a := 52) (F := upd (m.1 52) (61 + k) (nI b)) hT (by decide) (by decide)) (b := b) (A := A) (W := W) hb
      refine ⟨mB6 (oj_row m 52 (upd (m.1 52) (61 + k) (nI b))) k (vp_nar .short ((Int32.toInt16 (nI b')).toInt32)), o', b', A', W', ?_, sm_trans sm_52 sm_B6, e3⟩
      rw [m_line0 h51 hk (by omega), e1, o_bs]
      unfold mLn
      rw [mT_17, if_pos (nI_pos' (by omega)), m_B66 (by rw [oj_row_n (by decide)]; exact h51) hk]
  | some t1 =>
    obtain ⟨w4, w5, w6⟩ := w3 t1 rfl
    have hn1 := dps_ne (w5 0)
    by_cases hq : c i1 = 63
    · have hil1 : i1 < l := HC_in hc (by omega)
      obtain ⟨i2, r2, ⟨u1, u2, u3⟩, iX, iM⟩ := line_E hc (i := i1 + 1) (by omega)
      have eX : ∀ (m : ej_M) (b : Nat) (g : Nat → Int32), TpX l c m → b ≤ i → f_X2_readLine (xT m i b g) = (f_X2_readLevel oj_RF 0 0 (xT m (i1 + 1) (b + t1.length + 1) (upd (apL g b t1) (b + t1.length) (-63)))).bind fun q4 => if q4.1 = 0 then some (0, q4.2) else f_X2_readLine_B37 q4.2 := fun m b g hT hb => by
        unfold f_X2_readLine
        rw [CX_s hX hT hb, o_bs, if_neg i10, x_pass1 (t := 9) rfl (by decide) hc hT w2 (stn_9.mpr hq), o_bs, if_neg (fun q => by have := (nI_eq0 (by omega)).mp q; omega), x_emit (by omega), o_bs]
      have eM : ∀ (m : ej_M) (b : Nat) (A W : Nat → Int32) (k : Nat), TpM l c m → b ≤ i → m.1 51 1 = nI k → k < 61 → f_X11_line (mT m i (-1) (nI 0) b A W) = (f_X11_either oj_RF (mT (oj_row (oj_row m 52 (upd (m.1 52) (61 + k) (nI b))) 52 (upd (upd (m.1 52) (61 + k) (nI b)) (61 + k) (nI (b + t1.length)))) (i1 + 1) (-1) (nI 0) (b + t1.length) (apL A (130 + b) (t1.map mt_A)) (apL W (130 + b) (t1.map mw)))).bind fun q7 => f_X11_line_B66 (nI (61 + k)) q7.2 := fun m b A W k hT hb h51 hk => by
        have hT2 : TpM l c (oj_row m 52 (upd (m.1 52) (61 + k) (nI b))) := TpM_row hT (by decide) (by decide)
        rw [m_line0 h51 hk (by omega), CM_s hM hT2 hb, o_bs]
        unfold mLn
        rw [mT_17, if_neg hf1, m_look hc hT2 w2, o_bs, if_pos (show lk (c i1) = 63 from (m_is (v := 63) hc (by decide)).mpr hq)]
        unfold oj_pf
        rw [o_bs, mT_16, nI_1, mT_w16, mT_19, nar_sh _ (by omega), oj_art_st ar_52 (by omega), o_bs, mT_row (by decide) (by decide) (by decide), mT_n (by decide) (by decide) (by decide), oj_row_s]
      have hsm : ∀ (m : ej_M) (k b : Nat) (v : Int32), oj_sm (SL k) m (mB6 (oj_row (oj_row m 52 (upd (m.1 52) (61 + k) (nI b))) 52 (upd (upd (m.1 52) (61 + k) (nI b)) (61 + k) (nI (b + t1.length)))) k v) := fun m k b v => sm_trans (sm_trans sm_52 (sm_row fun j hj => (if_neg (fun q => hj (Or.inr ⟨Or.inl rfl, by omega⟩))))) sm_B6
      cases r2 with
      | none =>
        refine ⟨i2, none, ⟨by omega, u2, fun q e => (by cases e)⟩, fun m b g hT hb => ⟨fun q e => (by cases e), fun _ => ?_⟩, fun m b A W k hT hb h51 hk => ⟨fun q e => (by cases e), fun _ => ?_⟩⟩
        · obtain ⟨v, b', g', e1, e2, e3⟩ := CX_n iX hT (b := b + t1.length + 1) (g := upd (apL g b t1) (b + t1.length) (-63)) (by omega)
          rw [eX m b g hT hb, e1, o_bs]
          rcases e2 with rfl | ⟨rfl, e2⟩
          · exact ⟨0, b', g', if_pos rfl, Or.inl rfl⟩
          · obtain ⟨g2, eg⟩ := x_emitAny (m := m) (i := i2) (b := b') (g := g') (v := -59) (by omega)
            refine ⟨1, b' + 1, g2, ?_, Or.inr ⟨rfl, e2⟩⟩
            rw [if_neg i10]
            unfold f_X2_readLine_B37
            rw [eg, o_bs]
        · have hT2 : TpM l c (oj_row (oj_row m 52 (upd (m.1 52) (61 + k) (nI b))) 52 (upd (upd (m.1 52) (61 + k) (nI b)) (61 + k) (nI (b + t1.length)))) := TpM_row (TpM_row hT (by decide) (by decide)) (by decide) (by decide)
          obtain ⟨o', b', A', W', e1, e2, e3⟩ := CM_n iM hT2 (b := b + t1.length) (A := apL A (130 + b) (t1.map mt_A)) (W := apL W (130 + b) (t1.map mw)) (by omega)
          refine ⟨_, o', b', A', W', ?_, hsm m k b (vp_nar .short ((Int32.toInt16 (nI b')).toInt32)), fun j hj => ?_⟩
          · rw [eM m b A W k hT hb h51 hk, e1, o_bs, m_B66 (by rw [oj_row_n (by decide), oj_row_n (by decide)]; exact h51) hk]
          · obtain ⟨z1, z2⟩ := e3 j (by omega)
            exact ⟨z1.trans (ap_lo _ _ _ _ hj), z2.trans (ap_lo _ _ _ _ hj)⟩
      | some t2 =>
        obtain ⟨u4, u5, u6⟩ := u3 t2 rfl
        have hn2 := dps_ne (u5 0)
        have hne : t1 ≠ [] := fun e => by rw [e] at hn1; exact absurd hn1 (by decide)
        have hlen : (tk_line (t1, t2)).length = t1.length + 1 + t2.length + 1 := by
          rw [line_1 hne, List.length_append, List.length_cons, List.length_append]; show t1.length + (t2.length + 1 + 1) = _; omega
        refine ⟨i2, some (t1, t2), ⟨by omega, u2, fun q e => ?_⟩, fun m b g hT hb => ⟨fun q e => ?_, fun e => (by cases e)⟩, fun m b A W k hT hb h51 hk => ⟨fun q e => ?_, fun e => (by cases e)⟩⟩
        · cases e
          refine ⟨by omega, by omega, ⟨Or.inr (w5 0), u5 0⟩, fun t ht => ?_⟩
          rcases List.mem_append.mp ht with ht | ht
          · exact w6 t ht
          · exact u6 t ht
        · cases e
          rw [eX m b g hT hb, CX_s iX hT (by omega), o_bs, if_neg i10]
          unfold f_X2_readLine_B37
          rw [x_emit (by omega), o_bs, hlen, line_1 hne, ap_app]
          show some (1, xT m i2 (b + t1.length + 1 + t2.length + 1) (upd (apL (upd (apL g b t1) (b + t1.length) (-63)) (b + t1.length + 1) t2) (b + t1.length + 1 + t2.length) (-59))) = some (1, xT m i2 (b + (t1.length + 1 + t2.length + 1)) (apL (upd (apL g b t1) (b + t1.length) (-63)) (b + t1.length + 1) (t2 ++ [-59])))
          rw [ap_app, ap_one, show b + t1.length + 1 + t2.length + 1 = b + (t1.length + 1 + t2.length + 1) by omega]
        · cases e
          have hT2 : TpM l c (oj_row (oj_row m 52 (upd (m.1 52) (61 + k) (nI b))) 52 (upd (upd (m.1 52) (61 + k) (nI b)) (61 + k) (nI (b + t1.length)))) := TpM_row (TpM_row hT (by decide) (by decide)) (by decide) (by decide)
          refine ⟨_, ?_, hsm m k b (nI (b + t1.length + t2.length)), mB6_51, ?_, mB6_53⟩
          · rw [eM m b A W k hT hb h51 hk, CM_s iM hT2 (by omega), o_bs, m_B66 (by rw [oj_row_n (by decide), oj_row_n (by decide)]; exact h51) hk, nar_sh _ (by omega)]
            simp only [List.map_append, ap_app, List.length_map]
            rw [Nat.add_assoc 130]
          · rw [mB6_52, oj_row_s]
            exact if_pos rfl
    · refine ⟨i1, some ([], t1), ⟨w1, w2, fun q e => ?_⟩, fun m b g hT hb => ⟨fun q e => ?_, fun e => (by cases e)⟩, fun m b A W k hT hb h51 hk => ⟨fun q e => ?_, fun e => (by cases e)⟩⟩
      · cases e
        refine ⟨by omega, by rw [line_0, List.length_append]; show i + (t1.length + 1) ≤ i1 + 1; omega, ⟨Or.inl rfl, w5 0⟩, fun t ht => w6 t ht⟩
      · cases e
        unfold f_X2_readLine
        rw [CX_s hX hT hb, o_bs, if_neg i10, x_pass0 (t := 9) rfl (by decide) hc hT w2 (fun q => hq (stn_9.mp q)), o_bs, if_pos rfl]
        unfold f_X2_readLine_B37
        rw [x_emit (by omega), o_bs, line_0, ap_app, ap_one, List.length_append]
        rfl
      · cases e
        have hT2 : TpM l c (oj_row m 52 (upd (m.1 52) (61 + k) (nI b))) := TpM_row hT (by decide) (by decide)
        refine ⟨mB6 (oj_row m 52 (upd (m.1 52) (61 + k) (nI b))) k (nI (b + t1.length)), ?_, sm_trans sm_52 sm_B6, mB6_51, ?_, mB6_53⟩
        · rw [m_line0 h51 hk (by omega), CM_s hM hT2 hb, o_bs]
          unfold mLn
          rw [mT_17, if_neg hf1, m_look hc hT2 w2, o_bs, if_neg (show ¬ lk (c i1) = 63 from lk_no (v := 63) hc (by decide) hq), m_B66 (by rw [oj_row_n (by decide)]; exact h51) hk, nar_sh _ (by omega)]
          rfl
        · rw [mB6_52, oj_row_s]
          exact if_pos rfl
