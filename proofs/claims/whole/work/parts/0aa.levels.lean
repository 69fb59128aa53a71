/-! law: the levels, from operand up -/
theorem WL_none {l i i' : Nat} (h1 : i ≤ i') (h2 : i' ≤ l) : WL l i i' none := ⟨h1, h2, fun ts e => (by cases e)⟩
theorem WL_some {l i i' : Nat} {ts : List Int32} (h1 : i ≤ i') (h2 : i' ≤ l) (h3 : i + ts.length ≤ i') (h4 : ∀ d, tk_dps (d + 1) ts = some (d + 1)) (h5 : ∀ t, t ∈ ts → tb t) : WL l i i' (some ts) := ⟨h1, h2, fun ts' e => (by cases e; exact ⟨h3, h4, h5⟩)⟩
-- the steps behind a first piece: sign, piece, sign, piece ..
theorem lev_loop {l : Nat} {c : Nat → Nat} (hc : HC l c) {lev o N : Nat} (hl : lev = 0 ∨ lev = 1 ∨ lev = 3 ∨ lev = 4)
    (H : ∀ i, i ≤ l → ∃ i' r, WR l i i' r ∧ (∀ n, N ≤ n → CX l c ((g_X2_readLevel n).1 (nI (lev + 1)) (nI o)) i i' r) ∧ ∀ n, N ≤ n → CM l c (gm (lev + 1) (g_X11_either n)) o i i' r) :
    ∀ k i, i ≤ l → l - i ≤ k → ∃ i' r, WL l i i' r ∧ (∀ n, N ≤ n → ∀ K v4, l - i < K → v4 ≤ i → CX l c (fun m => oj_loop (xLb (g_X2_readLevel n) lev o 120) K (nI v4, m)) i i' r) ∧ ∀ n, N ≤ n → ∀ K, l - i < K → CM l c (fun m => oj_loop (mLb lev (g_X11_either n)) K m) o i i' r := by
  have hl120 := hc.1
  have hl5 : lev < 5 := by omega
  intro k
  induction k with
  | zero =>
    intro i hi hk
    have hno : ¬ c i ∈ stn (4 + lev) := fun q => by have := stn_lt (t := 4 + lev) (by omega) q; have := HC_in hc (i := i) (by omega); omega
    refine ⟨i, some [], WL_some (Nat.le_refl _) hi (Nat.le_refl _) (fun d => rfl) (fun t ht => absurd ht List.not_mem_nil), fun n hn K v4 hK hv => ?_, fun n hn K hK => ?_⟩
    · obtain ⟨K, rfl⟩ : ∃ K', K = K' + 1 := ⟨K - 1, by omega⟩
      exact CX_some fun m b g hT hb => loop_inr (xLb_no hc hT hi hl5 hno)
    · obtain ⟨K, rfl⟩ : ∃ K', K = K' + 1 := ⟨K - 1, by omega⟩
      exact CM_some fun m b A W hT hb => loop_inr (mLb_no hc hT hi hl hno)
  | succ k ih =>
    intro i hi hk
    by_cases hs : c i ∈ stn (4 + lev)
    · have hlt := stn_lt (t := 4 + lev) (by omega) hs
      have hil : i < l := HC_in hc (by omega)
      obtain ⟨t1, t2, t3, t4, t5, t6⟩ := sg_tok lev hl5 (c i) hs
      obtain ⟨i1, r1, ⟨w1, w2, w3⟩, hX, hM⟩ := H (i + 1) (by omega)
      cases r1 with
      | none =>
        refine ⟨i1, none, WL_none (by omega) w2, fun n hn K v4 hK hv => ?_, fun n hn K hK => ?_⟩
        · obtain ⟨K, rfl⟩ : ∃ K', K = K' + 1 + 1 := ⟨K - 2, by omega⟩
          refine CX_none fun m b g hT hb => ?_
          obtain ⟨v, b', g', e1, e2, e3⟩ := CX_n (hX n hn) hT (b := b) (g := g) (by omega)
          have hm : ¬ (120 : Int32) ≤ nI v4 := fun q => by have := (nI_leI (a := 120) (by decide) (by omega)).mp q; omega
          rcases e2 with rfl | ⟨rfl, e2⟩
          · refine ⟨0, b', g', loop_inr ?_, Or.inl rfl, by omega⟩
            rw [xLb_yes hc hT hi hl5 hs hm, e1, o_bs, if_pos rfl]
          · obtain ⟨g2, eg⟩ := x_emitAny (m := m) (i := i1) (b := b') (g := g') (v := -nI (c i)) (by omega)
            refine ⟨1, b' + 1, g2, (loop_inl (s' := (nI v4 + 1, xT m i1 (b' + 1) g2)) ?_).trans (loop_inr (xLb_no hc hT w2 hl5 (sg_dg hl5 e2))), Or.inr ⟨rfl, e2⟩, by omega⟩
            rw [xLb_yes hc hT hi hl5 hs hm, e1, o_bs, if_neg i10, eg, o_bs]
        · obtain ⟨K, rfl⟩ : ∃ K', K = K' + 1 + 1 := ⟨K - 2, by omega⟩
          refine CM_none fun m b A W hT hb => ?_
          obtain ⟨o', b', A', W', e1, e2, e3⟩ := CM_n (hM n hn) hT (b := b) (A := A) (W := W) (by omega)
          refine ⟨o', b' + 1, upd A' (130 + b') (nI (c i)), upd W' (130 + b') 0, (loop_inl (s' := mT m i1 (nI i1) o' (b' + 1) (upd A' (130 + b') (nI (c i))) (upd W' (130 + b') 0)) ?_).trans (loop_inr (mLb_end (nI_pos' (by omega)) hl)), by omega, fun j hj => ⟨(if_neg (by omega)).trans (e3 j hj).1, (if_neg (by omega)).trans (e3 j hj).2⟩⟩
          rw [mLb_yes hc hT hi hl hs, e1, o_bs, m_step hlt.1 (by omega), o_bs]
      | some ts1 =>
        obtain ⟨w4, w5, w6⟩ := w3 ts1 rfl
        obtain ⟨i2, r2, ⟨u1, u2, u3⟩, iX, iM⟩ := ih i1 w2 (by omega)
        have eX : ∀ n, N ≤ n → ∀ v4, v4 ≤ i → ∀ (m : ej_M) (b : Nat) (g : Nat → Int32), TpX l c m → b ≤ i → xLb (g_X2_readLevel n) lev o 120 (nI v4, xT m i b g) = some (Sum.inl (nI (v4 + 1), xT m i1 (b + ts1.length + 1) (upd (apL g b ts1) (b + ts1.length) (-nI (c i))))) := fun n hn v4 hv m b g hT hb => by
          have hm : ¬ (120 : Int32) ≤ nI v4 := fun q => by have := (nI_leI (a := 120) (by decide) (by omega)).mp q; omega
          rw [xLb_yes hc hT hi hl5 hs hm, CX_s (hX n hn) hT (by omega), o_bs, if_neg i10, x_emit (by omega), o_bs, nI_1]
        have eM : ∀ n, N ≤ n → ∀ (m : ej_M) (b : Nat) (A W : Nat → Int32), TpM l c m → b ≤ i → mLb lev (g_X11_either n) (mT m i (-1) (nI o) b A W) = some (Sum.inl (mT m i1 (-1) (nI o) (b + ts1.length + 1) (upd (apL A (130 + b) (ts1.map mt_A)) (130 + (b + ts1.length)) (nI (c i))) (upd (apL W (130 + b) (ts1.map mw)) (130 + (b + ts1.length)) 0))) := fun n hn m b A W hT hb => by
          rw [mLb_yes hc hT hi hl hs, CM_s (hM n hn) hT (by omega), o_bs, m_step hlt.1 (by omega), o_bs]
        cases r2 with
        | none =>
          refine ⟨i2, none, WL_none (by omega) u2, fun n hn K v4 hK hv => ?_, fun n hn K hK => ?_⟩
          · obtain ⟨K, rfl⟩ : ∃ K', K = K' + 1 := ⟨K - 1, by omega⟩
            refine CX_none fun m b g hT hb => ?_
            obtain ⟨v, b', g', e1, e2, e3⟩ := CX_n (iX n hn K (v4 + 1) (by omega) (by omega)) hT (b := b + ts1.length + 1) (g := upd (apL g b ts1) (b + ts1.length) (-nI (c i))) (by omega)
            exact ⟨v, b', g', (loop_inl (eX n hn v4 hv m b g hT hb)).trans e1, e2, by omega⟩
          · obtain ⟨K, rfl⟩ : ∃ K', K = K' + 1 := ⟨K - 1, by omega⟩
            refine CM_none fun m b A W hT hb => ?_
            obtain ⟨o', b', A', W', e1, e2, e3⟩ := CM_n (iM n hn K (by omega)) hT (b := b + ts1.length + 1) (A := upd (apL A (130 + b) (ts1.map mt_A)) (130 + (b + ts1.length)) (nI (c i))) (W := upd (apL W (130 + b) (ts1.map mw)) (130 + (b + ts1.length)) 0) (by omega)
            refine ⟨o', b', A', W', (loop_inl (eM n hn m b A W hT hb)).trans e1, by omega, fun j hj => ?_⟩
            obtain ⟨z1, z2⟩ := e3 j (by omega)
            exact ⟨z1.trans ((if_neg (by omega)).trans (ap_lo _ _ _ _ hj)), z2.trans ((if_neg (by omega)).trans (ap_lo _ _ _ _ hj))⟩
        | some ts2 =>
          obtain ⟨u4, u5, u6⟩ := u3 ts2 rfl
          have hlen : (ts1 ++ -nI (c i) :: ts2).length = ts1.length + 1 + ts2.length := by
            rw [List.length_append, List.length_cons]; omega
          refine ⟨i2, some (ts1 ++ -nI (c i) :: ts2), WL_some (by omega) u2 (by omega) (fun d => ?_) (fun t ht => ?_), fun n hn K v4 hK hv => ?_, fun n hn K hK => ?_⟩
          · rw [tk_app, w5 (d + 1)]
            show (tk_dp (d + 1 + 1) (-nI (c i))).bind (fun d' => tk_dps d' ts2) = some (d + 1)
            rw [tk_two t3 t4 t5]
            exact u5 d
          · rcases List.mem_append.mp ht with ht | ht
            · exact w6 t ht
            · rcases List.mem_cons.mp ht with ht | ht
              · rw [ht]; exact ⟨c i, hlt.1, t1⟩
              · exact u6 t ht
          · obtain ⟨K, rfl⟩ : ∃ K', K = K' + 1 := ⟨K - 1, by omega⟩
            refine CX_some fun m b g hT hb => ?_
            refine (loop_inl (eX n hn v4 hv m b g hT hb)).trans ((CX_s (iX n hn K (v4 + 1) (by omega) (by omega)) hT (by omega)).trans ?_)
            rw [hlen, ap_app, show b + ts1.length + 1 + ts2.length = b + (ts1.length + 1 + ts2.length) by omega]
            rfl
          · obtain ⟨K, rfl⟩ : ∃ K', K = K' + 1 := ⟨K - 1, by omega⟩
            refine CM_some fun m b A W hT hb => ?_
            refine (loop_inl (eM n hn m b A W hT hb)).trans ((CM_s (iM n hn K (by omega)) hT (by omega)).trans ?_)
            rw [hlen, List.map_append, List.map_append, ap_app, ap_app, List.length_map, List.length_map, show b + ts1.length + 1 + ts2.length = b + (ts1.length + 1 + ts2.length) by omega, List.map_cons, List.map_cons, t1, t2, Nat.add_assoc 130]
            rfl
    · refine ⟨i, some [], WL_some (Nat.le_refl _) hi (Nat.le_refl _) (fun d => rfl) (fun t ht => absurd ht List.not_mem_nil), fun n hn K v4 hK hv => ?_, fun n hn K hK => ?_⟩
      · obtain ⟨K, rfl⟩ : ∃ K', K = K' + 1 := ⟨K - 1, by omega⟩
        exact CX_some fun m b g hT hb => loop_inr (xLb_no hc hT hi hl5 hs)
      · obtain ⟨K, rfl⟩ : ∃ K', K = K' + 1 := ⟨K - 1, by omega⟩
        exact CM_some fun m b A W hT hb => loop_inr (mLb_no hc hT hi hl hs)
