/-! law: both readers at one byte -/
def stn (t : Nat) : List Nat := ([[119, 108, 114, 107, 110, 115], [40], [41], [33, 45], [124], [38], [60, 61, 62], [43, 45], [42, 47, 37], [63], [59]] : List (List Nat)).getD t []
-- c i: the i-th byte of a tape of l bytes; 256: there is none
def HC (l : Nat) (c : Nat → Nat) : Prop := l ≤ 120 ∧ (∀ i, i < l → c i < 256) ∧ ∀ i, l ≤ i → c i = 256
def bt (c : Nat) : Int32 := (Int32.toInt8 (nI c)).toInt32
def lk (c : Nat) : Int32 := if c < 256 then bt c else -1
def dg (c : Nat) : Prop := 48 ≤ c ∧ c ≤ 57
theorem HC_lt {l i : Nat} {c : Nat → Nat} (h : HC l c) : c i < 257 := by
  by_cases e : i < l
  · have := h.2.1 i e; omega
  · rw [h.2.2 i (by omega)]; decide
theorem HC_in {l i : Nat} {c : Nat → Nat} (h : HC l c) (e : c i < 256) : i < l := by
  by_cases z : i < l
  · exact z
  · rw [h.2.2 i (by omega)] at e; omega
theorem lk_all : ∀ c, c < 257 → (c < 128 ∧ lk c = nI c) ∨ (128 ≤ c ∧ lk c < 0) := by decide +kernel
theorem lk_is {c v : Nat} (hc : c < 257) (hv : v < 128) : lk c = nI v ↔ c = v := by
  rcases lk_all c hc with ⟨h1, h2⟩ | ⟨h1, h2⟩
  · rw [h2, nI_eq (by omega) (by omega)]
  · exact ⟨fun e => absurd h2 (by rw [e]; exact nI_pos (by omega)), fun e => by omega⟩
theorem lk_dg0 : ∀ c, c < 257 → ((48 ≤ lk c ∧ lk c ≤ 57) ↔ (48 ≤ c ∧ c ≤ 57)) := by decide +kernel
theorem lk_dg {c : Nat} (hc : c < 257) : (48 ≤ lk c ∧ lk c ≤ 57) ↔ dg c := lk_dg0 c hc
theorem lk_lo {c : Nat} (hc : c < 128) : lk c = nI c := by
  rcases lk_all c (by omega) with ⟨h1, h2⟩ | ⟨h1, h2⟩
  · exact h2
  · omega
theorem x_char : ∀ c, c < 256 → (Int32.toUInt32 (nI c) % 65536).toInt32 = nI c := by decide +kernel
theorem st_get : ∀ t, t < 11 → (stn t).length = ej_sl t ∧ ∀ p, p < ej_sl t → (ej_stx.getD t []).getD p 0 = nI ((stn t).getD p 0) ∧ (stn t).getD p 0 < 128 ∧ 0 < (stn t).getD p 0 := by decide +kernel
theorem mem_getD {L : List Nat} {v : Nat} : v ∈ L ↔ ∃ p, p < L.length ∧ L.getD p 0 = v := by
  constructor
  · intro h
    obtain ⟨p, hp, e⟩ := List.getElem_of_mem h
    exact ⟨p, hp, by rw [List.getD_eq_getElem?_getD, List.getElem?_eq_getElem hp]; exact e⟩
  · rintro ⟨p, hp, e⟩
    rw [List.getD_eq_getElem?_getD, List.getElem?_eq_getElem hp] at e
    have e' : L[p] = v := e
    exact e' ▸ List.getElem_mem hp
theorem stn_lt {t v : Nat} (ht : t < 11) (h : v ∈ stn t) : v < 128 ∧ 0 < v := by
  obtain ⟨p, hp, rfl⟩ := mem_getD.mp h
  obtain ⟨s1, s2⟩ := st_get t ht
  exact (s2 p (by omega)).2
def TpX (l : Nat) (c : Nat → Nat) (m : ej_M) : Prop := m.1 1 1 = nI l ∧ (∀ i, i < l → m.1 2 i = nI (c i)) ∧ ∀ t, t < 11 → m.1 (3000 + t) = fun j => (ej_stx.getD t []).getD j 0
def TpM (l : Nat) (c : Nat → Nat) (m : ej_M) : Prop := m.1 41 15 = nI l ∧ ∀ i, i < l → m.1 48 i = bt (c i)
-- the class as it reads
def xT (m : ej_M) (i b : Nat) (g : Nat → Int32) : ej_M := (fun a => if a = 1 then upd (upd (m.1 1) 2 (nI i)) 4 (nI b) else if a = 3 then g else m.1 a, m.2)
theorem xT_11 {m : ej_M} {i b : Nat} {g : Nat → Int32} : (xT m i b g).1 1 1 = m.1 1 1 := rfl
theorem xT_12 {m : ej_M} {i b : Nat} {g : Nat → Int32} : (xT m i b g).1 1 2 = nI i := rfl
theorem xT_14 {m : ej_M} {i b : Nat} {g : Nat → Int32} : (xT m i b g).1 1 4 = nI b := rfl
theorem xT_3 {m : ej_M} {i b : Nat} {g : Nat → Int32} : (xT m i b g).1 3 = g := rfl
theorem xT_n {m : ej_M} {i b a : Nat} {g : Nat → Int32} (h1 : a ≠ 1) (h3 : a ≠ 3) : (xT m i b g).1 a = m.1 a := by
  show (if a = 1 then _ else if a = 3 then g else m.1 a) = _
  rw [if_neg h1, if_neg h3]
theorem upd_24 {f : Nat → Int32} {p q i' b' : Int32} : upd (upd (upd f 2 p) 4 q) 2 i' = upd (upd f 2 i') 4 q ∧ upd (upd (upd f 2 p) 4 q) 4 b' = upd (upd f 2 p) 4 b' := by
  constructor
  · funext j
    simp only [upd]
    by_cases h4 : j = 4
    · subst h4; rfl
    · by_cases h2 : j = 2
      · subst h2; rfl
      · simp only [if_neg h4, if_neg h2]
  · funext j
    simp only [upd]
    by_cases h4 : j = 4
    · subst h4; rfl
    · simp only [if_neg h4]
theorem xT_go {m : ej_M} {i b i' : Nat} {g : Nat → Int32} : ej_w (xT m i b g) 1 2 (nI i') = xT m i' b g := by
  refine Prod.ext (funext fun a => ?_) rfl
  rw [ej_w_rd]
  by_cases h : a = 1
  · subst h
    rw [if_pos rfl]
    exact (upd_24 (b' := 0)).1
  · rw [if_neg h]
    show (if a = 1 then _ else _) = (if a = 1 then _ else _)
    rw [if_neg h, if_neg h]
theorem xT_put {m : ej_M} {i b b' : Nat} {g g' : Nat → Int32} : ej_w (oj_row (xT m i b g) 3 g') 1 4 (nI b') = xT m i b' g' := by
  refine Prod.ext (funext fun a => ?_) rfl
  rw [ej_w_rd]
  by_cases h : a = 1
  · subst h
    rw [if_pos rfl]
    exact (upd_24 (i' := 0)).2
  · rw [if_neg h]
    show (if a = 3 then g' else if a = 1 then _ else if a = 3 then g else m.1 a) = (if a = 1 then _ else if a = 3 then g' else m.1 a)
    by_cases h3 : a = 3
    · rw [if_pos h3, if_neg h, if_pos h3]
    · rw [if_neg h3, if_neg h, if_neg h, if_neg h3]
      rw [if_neg h3]
theorem x_seen {l i b : Nat} {c : Nat → Nat} {m : ej_M} {g : Nat → Int32} (hc : HC l c) (h : TpX l c m) (hi : i ≤ l) : f_X2_seen (xT m i b g) = some (if i < l then nI (c i) else -1, xT m i b g) := by
  have hl := hc.1
  unfold f_X2_seen
  rw [xT_11, xT_12, h.1]
  by_cases e : i < l
  · rw [if_neg (fun q => by have := (nI_leI (by omega) (by omega)).mp q; omega), if_pos e, p_at1 ar_2 (by omega), o_bs, xT_n (by decide) (by decide), h.2.1 i e]
  · rw [if_pos ((nI_leI (by omega) (by omega)).mpr (by omega)), if_neg e]
theorem x_pass {l i b t s : Nat} {c : Nat → Nat} {m : ej_M} {g : Nat → Int32} (hs : s = 2000 + t) (ht : t < 11) (hc : HC l c) (h : TpX l c m) (hi : i ≤ l) :
    (c i ∈ stn t → f_X2_passed s (xT m i b g) = some (nI (c i), xT m (i + 1) b g)) ∧ (¬ c i ∈ stn t → f_X2_passed s (xT m i b g) = some (0, xT m i b g)) := by
  subst hs
  have hl := hc.1
  obtain ⟨s1, s2⟩ := st_get t ht
  unfold f_X2_passed
  rw [x_seen hc h hi, o_bs]
  by_cases e : i < l
  · have hb := hc.2.1 i e
    rw [if_pos e]
    simp only
    by_cases h0 : c i = 0
    · refine ⟨fun q => absurd (stn_lt ht q).2 (by omega), fun _ => ?_⟩
      rw [if_pos (by rw [h0]; decide)]
    · rw [if_neg (fun q => by have := (nI_leI (b := 0) (by omega) (by decide)).mp q; omega), st_sv ht, o_bs, x_char _ hb]
      obtain ⟨q, q1, q2, q3⟩ := x_sign (m := xT m i b g) ht hb
      rw [q1, o_bs]
      have hr : (xT m i b g).1 (3000 + t) = fun j => (ej_stx.getD t []).getD j 0 := (xT_n (by omega) (by omega)).trans (h.2.2 t ht)
      have hl2 : lk (c i) = bt (c i) := if_pos hb
      rcases q3 with ⟨p, p1, p2, p3, p4⟩ | ⟨p1, p2⟩
      · rw [hr] at p2
        have e1 : lk (c i) = nI ((stn t).getD p 0) := hl2.trans (p2.symm.trans (s2 p p1).1)
        have hm : c i ∈ stn t := mem_getD.mpr ⟨p, by omega, ((lk_is (by omega) (s2 p p1).2.1).mp e1).symm⟩
        refine ⟨fun _ => ?_, fun z => absurd hm z⟩
        rw [p4, if_pos (nI_pos' (by have := (st_sl t ht).2; omega)), q2]
        unfold oj_pf
        rw [o_bs, xT_12, nI_1, xT_go]
      · have hm : ¬ c i ∈ stn t := fun z => by
          obtain ⟨p, hp, e2⟩ := mem_getD.mp z
          have hp' : p < ej_sl t := by omega
          refine p1 p hp' ?_
          rw [hr]
          show (ej_stx.getD t []).getD p 0 = _
          rw [(s2 p hp').1, e2]
          exact (lk_lo (by rw [← e2]; exact (s2 p hp').2.1)).symm.trans hl2
        refine ⟨fun z => absurd z hm, fun _ => ?_⟩
        rw [p2, if_neg (by decide), q2]
  · have h256 := hc.2.2 i (by omega)
    rw [if_neg e]
    simp only
    rw [if_pos (by decide)]
    exact ⟨fun q => absurd (stn_lt ht q).1 (by omega), fun _ => rfl⟩
theorem x_pass1 {l i b t s : Nat} {c : Nat → Nat} {m : ej_M} {g : Nat → Int32} (hs : s = 2000 + t) (ht : t < 11) (hc : HC l c) (h : TpX l c m) (hi : i ≤ l) (hm : c i ∈ stn t) : f_X2_passed s (xT m i b g) = some (nI (c i), xT m (i + 1) b g) := (x_pass hs ht hc h hi).1 hm
theorem x_pass0 {l i b t s : Nat} {c : Nat → Nat} {m : ej_M} {g : Nat → Int32} (hs : s = 2000 + t) (ht : t < 11) (hc : HC l c) (h : TpX l c m) (hi : i ≤ l) (hm : ¬ c i ∈ stn t) : f_X2_passed s (xT m i b g) = some (0, xT m i b g) := (x_pass hs ht hc h hi).2 hm
theorem x_emit {m : ej_M} {i b : Nat} {g : Nat → Int32} {v : Int32} (hb : b < 121) : f_X2_emit v (xT m i b g) = some ((), xT m i (b + 1) (upd g b v)) := by
  unfold f_X2_emit
  rw [xT_14, p_lay1 ar_3 hb, o_bs]
  unfold oj_pf
  rw [o_bs, oj_row_n (by decide), xT_14, nI_1, xT_put, xT_3]
theorem x_emitAny {m : ej_M} {i b : Nat} {g : Nat → Int32} {v : Int32} (hb : b < 1000) : ∃ g', f_X2_emit v (xT m i b g) = some ((), xT m i (b + 1) g') := by
  by_cases h : b < 121
  · exact ⟨_, x_emit h⟩
  · refine ⟨g, ?_⟩
    unfold f_X2_emit
    rw [xT_14, p_lay ar_3 (by omega), if_neg h, o_bs]
    unfold oj_pf
    rw [o_bs, xT_14, nI_1]
    have e : xT m i b g = oj_row (xT m i b g) 3 g := by
      have := oj_row_id (m := xT m i b g) (a := 3)
      rw [xT_3] at this
      exact this.symm
    simp only
    rw [e, xT_put]
-- the reference as it reads
def mT (m : ej_M) (i : Nat) (f o : Int32) (b : Nat) (A W : Nat → Int32) : ej_M := (fun a => if a = 41 then upd (upd (upd (upd (m.1 41) 16 (nI i)) 17 f) 18 o) 19 (nI b) else if a = 49 then A else if a = 50 then W else m.1 a, m.2)
section
variable {m : ej_M} {i b : Nat} {f o : Int32} {A W : Nat → Int32}
theorem mT_15 : (mT m i f o b A W).1 41 15 = m.1 41 15 := rfl
theorem mT_16 : (mT m i f o b A W).1 41 16 = nI i := rfl
theorem mT_17 : (mT m i f o b A W).1 41 17 = f := rfl
theorem mT_18 : (mT m i f o b A W).1 41 18 = o := rfl
theorem mT_19 : (mT m i f o b A W).1 41 19 = nI b := rfl
theorem mT_49 : (mT m i f o b A W).1 49 = A := rfl
theorem mT_50 : (mT m i f o b A W).1 50 = W := rfl
theorem mT_n {a : Nat} (h1 : a ≠ 41) (h2 : a ≠ 49) (h3 : a ≠ 50) : (mT m i f o b A W).1 a = m.1 a := by
  show (if a = 41 then _ else if a = 49 then A else if a = 50 then W else m.1 a) = _
  rw [if_neg h1, if_neg h2, if_neg h3]
theorem upd_back {g : Nat → Int32} {k k' : Nat} {v v' : Int32} (h : k ≠ k') : upd (upd g k v) k' v' = upd (upd g k' v') k v := by
  funext j
  simp only [upd]
  by_cases h1 : j = k
  · subst h1; rw [if_neg h, if_pos rfl, if_pos rfl]
  · rw [if_neg h1, if_neg h1]
theorem upd_two {g : Nat → Int32} {k : Nat} {v v' : Int32} : upd (upd g k v) k v' = upd g k v' := by
  funext j
  simp only [upd]
  by_cases h1 : j = k
  · rw [if_pos h1, if_pos h1]
  · rw [if_neg h1, if_neg h1, if_neg h1]
theorem mT_w16 {i' : Nat} : ej_w (mT m i f o b A W) 41 16 (nI i') = mT m i' f o b A W := by
  refine Prod.ext (funext fun a => ?_) rfl
  rw [ej_w_rd]
  by_cases h : a = 41
  · subst h
    rw [if_pos rfl]
    show upd (upd (upd (upd (upd (m.1 41) 16 (nI i)) 17 f) 18 o) 19 (nI b)) 16 (nI i') = upd (upd (upd (upd (m.1 41) 16 (nI i')) 17 f) 18 o) 19 (nI b)
    rw [upd_back (k := 19) (k' := 16) (by decide), upd_back (k := 18) (k' := 16) (by decide), upd_back (k := 17) (k' := 16) (by decide), upd_two]
  · rw [if_neg h]
    show (if a = 41 then _ else _) = (if a = 41 then _ else _)
    rw [if_neg h, if_neg h]
theorem mT_w17 {f' : Int32} : ej_w (mT m i f o b A W) 41 17 f' = mT m i f' o b A W := by
  refine Prod.ext (funext fun a => ?_) rfl
  rw [ej_w_rd]
  by_cases h : a = 41
  · subst h
    rw [if_pos rfl]
    show upd (upd (upd (upd (upd (m.1 41) 16 (nI i)) 17 f) 18 o) 19 (nI b)) 17 f' = upd (upd (upd (upd (m.1 41) 16 (nI i)) 17 f') 18 o) 19 (nI b)
    rw [upd_back (k := 19) (k' := 17) (by decide), upd_back (k := 18) (k' := 17) (by decide), upd_two]
  · rw [if_neg h]
    show (if a = 41 then _ else _) = (if a = 41 then _ else _)
    rw [if_neg h, if_neg h]
theorem mT_w18 {o' : Int32} : ej_w (mT m i f o b A W) 41 18 o' = mT m i f o' b A W := by
  refine Prod.ext (funext fun a => ?_) rfl
  rw [ej_w_rd]
  by_cases h : a = 41
  · subst h
    rw [if_pos rfl]
    show upd (upd (upd (upd (upd (m.1 41) 16 (nI i)) 17 f) 18 o) 19 (nI b)) 18 o' = upd (upd (upd (upd (m.1 41) 16 (nI i)) 17 f) 18 o') 19 (nI b)
    rw [upd_back (k := 19) (k' := 18) (by decide), upd_two]
  · rw [if_neg h]
    show (if a = 41 then _ else _) = (if a = 41 then _ else _)
    rw [if_neg h, if_neg h]
theorem mT_put {b' : Nat} {A' W' : Nat → Int32} : ej_w (oj_row (oj_row (mT m i f o b A W) 49 A') 50 W') 41 19 (nI b') = mT m i f o b' A' W' := by
  refine Prod.ext (funext fun a => ?_) rfl
  rw [ej_w_rd]
  by_cases h : a = 41
  · subst h
    rw [if_pos rfl]
    show upd (upd (upd (upd (upd (m.1 41) 16 (nI i)) 17 f) 18 o) 19 (nI b)) 19 (nI b') = upd (upd (upd (upd (m.1 41) 16 (nI i)) 17 f) 18 o) 19 (nI b')
    rw [upd_two]
  · rw [if_neg h]
    show (if a = 50 then W' else if a = 49 then A' else if a = 41 then _ else if a = 49 then A else if a = 50 then W else m.1 a) = (if a = 41 then _ else if a = 49 then A' else if a = 50 then W' else m.1 a)
    by_cases h50 : a = 50
    · rw [if_pos h50, if_neg h, if_neg (by omega), if_pos h50]
    · by_cases h49 : a = 49
      · rw [if_neg h50, if_pos h49, if_neg h, if_pos h49]
      · rw [if_neg h50, if_neg h49, if_neg h, if_neg h49, if_neg h50, if_neg h, if_neg h49, if_neg h50]
theorem m_look {l : Nat} {c : Nat → Nat} (hc : HC l c) (h : TpM l c m) (hi : i ≤ l) : f_X11_look (mT m i f o b A W) = some (lk (c i), mT m i f o b A W) := by
  have hl := hc.1
  unfold f_X11_look
  rw [mT_15, mT_16, h.1]
  by_cases e : i < l
  · have hb := hc.2.1 i e
    rw [if_neg (fun q => by have := (nI_leI (by omega) (by omega)).mp q; omega), oj_art_ld ar_48 (by omega), o_bs, mT_n (by decide) (by decide) (by decide), h.2 i e]
    unfold lk
    rw [if_pos hb]
  · rw [if_pos ((nI_leI (by omega) (by omega)).mpr (by omega)), hc.2.2 i (by omega)]
    rfl
theorem nar_b : ∀ k, k < 128 → vp_nar .byte ((Int32.toInt8 (nI k)).toInt32) = nI k := by decide +kernel
theorem m_step {k : Nat} {v : Int32} (hk : k < 128) (hb : b < 130) : f_X11_addStep (nI k) v (mT m i f o b A W) = some ((), mT m i f o (b + 1) (upd A (130 + b) (nI k)) (upd W (130 + b) v)) := by
  have e : (130 : Int32) + nI b = nI (130 + b) := nI_add 130 b
  unfold f_X11_addStep
  rw [mT_19, e, nar_b k hk, oj_art_st ar_49 (by omega), o_bs, oj_row_n (by decide), mT_19, e, oj_ar_st ar_50 (by omega), o_bs]
  unfold oj_pf
  simp only [oj_row_rd, reduceIte, Nat.reduceEqDiff]
  rw [o_bs, mT_19, nI_1, mT_put, mT_49, mT_50]
theorem m_faulty : f_X11_faulty (mT m i (-1) o b A W) = some ((), mT m i (nI i) o b A W) := by
  unfold f_X11_faulty
  rw [mT_17, if_neg (by decide), mT_16]
  unfold oj_pf
  rw [o_bs, mT_w17]
end
