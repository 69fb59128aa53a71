/-! law: what a piece of text gives, on both sides; numbers -/
-- tokens laid one behind another
def apL : (Nat → Int32) → Nat → List Int32 → Nat → Int32
  | g, _, [] => g
  | g, b, t :: ts => apL (upd g b t) (b + 1) ts
theorem ap_app : ∀ (x y : List Int32) (g : Nat → Int32) (b : Nat), apL g b (x ++ y) = apL (apL g b x) (b + x.length) y := by
  intro x
  induction x with
  | nil => intro y g b; rfl
  | cons t x ih =>
    intro y g b
    show apL (upd g b t) (b + 1) (x ++ y) = apL (apL (upd g b t) (b + 1) x) (b + (x.length + 1)) y
    rw [ih, show b + 1 + x.length = b + (x.length + 1) by omega]
theorem ap_one {g : Nat → Int32} {b : Nat} {t : Int32} : apL g b [t] = upd g b t := rfl
theorem ap_lo : ∀ (ts : List Int32) (g : Nat → Int32) (b q : Nat), q < b → apL g b ts q = g q := by
  intro ts
  induction ts with
  | nil => intro g b q h; rfl
  | cons t ts ih =>
    intro g b q h
    show apL (upd g b t) (b + 1) ts q = g q
    rw [ih _ _ _ (by omega)]
    unfold upd
    rw [if_neg (by omega)]
theorem ap_rd : ∀ (ts : List Int32) (g : Nat → Int32) (b j : Nat), j < ts.length → apL g b ts (b + j) = ts.getD j 0 := by
  intro ts
  induction ts with
  | nil => intro g b j h; exact absurd h (Nat.not_lt_zero _)
  | cons t ts ih =>
    intro g b j h
    show apL (upd g b t) (b + 1) ts (b + j) = (t :: ts).getD j 0
    match j with
    | 0 =>
      rw [ap_lo _ _ _ _ (by omega)]
      unfold upd
      rw [if_pos (by omega)]
      rfl
    | j + 1 =>
      rw [show b + (j + 1) = b + 1 + j by omega, ih _ _ _ (by simpa using h)]
      rfl
def mw (t : Int32) : Int32 := if t < -6 then 0 else mt_W t
def tb (t : Int32) : Prop := ∃ a, a < 128 ∧ mt_A t = nI a
theorem tk_app : ∀ (x y : List Int32) (d : Nat), tk_dps d (x ++ y) = (tk_dps d x).bind fun e => tk_dps e y := by
  intro x
  induction x with
  | nil => intro y d; rfl
  | cons t x ih =>
    intro y d
    show (tk_dp d t).bind (fun d' => tk_dps d' (x ++ y)) = ((tk_dp d t).bind fun d' => tk_dps d' x).bind fun e => tk_dps e y
    cases tk_dp d t with
    | none => rfl
    | some d' => exact ih y d'
-- the class on a piece of text from i on: it is passed up to i', or stands at the wrong byte i'
def CX (l : Nat) (c : Nat → Nat) (F : ej_M → Option (Int32 × ej_M)) (i i' : Nat) (r : Option (List Int32)) : Prop := ∀ (m : ej_M) (b : Nat) (g : Nat → Int32), TpX l c m → b ≤ i →
  (∀ ts, r = some ts → F (xT m i b g) = some (1, xT m i' (b + ts.length) (apL g b ts)))
  ∧ (r = none → ∃ v b' g', F (xT m i b g) = some (v, xT m i' b' g') ∧ (v = 0 ∨ v = 1 ∧ dg (c i')) ∧ b' + i ≤ b + i')
def CM (l : Nat) (c : Nat → Nat) (F : ej_M → Option (Unit × ej_M)) (o i i' : Nat) (r : Option (List Int32)) : Prop := ∀ (m : ej_M) (b : Nat) (A W : Nat → Int32), TpM l c m → b ≤ i →
  (∀ ts, r = some ts → F (mT m i (-1) (nI o) b A W) = some ((), mT m i' (-1) (nI o) (b + ts.length) (apL A (130 + b) (ts.map mt_A)) (apL W (130 + b) (ts.map mw))))
  ∧ (r = none → ∃ o' b' A' W', F (mT m i (-1) (nI o) b A W) = some ((), mT m i' (nI i') o' b' A' W') ∧ (b ≤ b' ∧ b' + i ≤ b + i' + 1) ∧ ∀ j, j < 130 + b → A' j = A j ∧ W' j = W j)
def WR (l i i' : Nat) (r : Option (List Int32)) : Prop := i ≤ i' ∧ i' ≤ l ∧ ∀ ts, r = some ts → i + ts.length ≤ i' ∧ (∀ d, tk_dps d ts = some (d + 1)) ∧ ∀ t, t ∈ ts → tb t
-- what follows a first piece
def WL (l i i' : Nat) (r : Option (List Int32)) : Prop := i ≤ i' ∧ i' ≤ l ∧ ∀ ts, r = some ts → i + ts.length ≤ i' ∧ (∀ d, tk_dps (d + 1) ts = some (d + 1)) ∧ ∀ t, t ∈ ts → tb t
theorem CX_some {l : Nat} {c : Nat → Nat} {F : ej_M → Option (Int32 × ej_M)} {i i' : Nat} {ts : List Int32} (h : ∀ (m : ej_M) (b : Nat) (g : Nat → Int32), TpX l c m → b ≤ i → F (xT m i b g) = some (1, xT m i' (b + ts.length) (apL g b ts))) : CX l c F i i' (some ts) :=
  fun m b g hT hb => ⟨fun ts' e => (by cases e; exact h m b g hT hb), fun e => (by cases e)⟩
theorem CX_none {l : Nat} {c : Nat → Nat} {F : ej_M → Option (Int32 × ej_M)} {i i' : Nat} (h : ∀ (m : ej_M) (b : Nat) (g : Nat → Int32), TpX l c m → b ≤ i → ∃ v b' g', F (xT m i b g) = some (v, xT m i' b' g') ∧ (v = 0 ∨ v = 1 ∧ dg (c i')) ∧ b' + i ≤ b + i') : CX l c F i i' none :=
  fun m b g hT hb => ⟨fun ts' e => (by cases e), fun _ => h m b g hT hb⟩
theorem CX_s {l : Nat} {c : Nat → Nat} {F : ej_M → Option (Int32 × ej_M)} {i i' b : Nat} {ts : List Int32} {m : ej_M} {g : Nat → Int32} (h : CX l c F i i' (some ts)) (hT : TpX l c m) (hb : b ≤ i) : F (xT m i b g) = some (1, xT m i' (b + ts.length) (apL g b ts)) := (h m b g hT hb).1 ts rfl
theorem CX_n {l : Nat} {c : Nat → Nat} {F : ej_M → Option (Int32 × ej_M)} {i i' b : Nat} {m : ej_M} {g : Nat → Int32} (h : CX l c F i i' none) (hT : TpX l c m) (hb : b ≤ i) : ∃ v b' g', F (xT m i b g) = some (v, xT m i' b' g') ∧ (v = 0 ∨ v = 1 ∧ dg (c i')) ∧ b' + i ≤ b + i' := (h m b g hT hb).2 rfl
theorem CM_some {l : Nat} {c : Nat → Nat} {F : ej_M → Option (Unit × ej_M)} {o i i' : Nat} {ts : List Int32} (h : ∀ (m : ej_M) (b : Nat) (A W : Nat → Int32), TpM l c m → b ≤ i → F (mT m i (-1) (nI o) b A W) = some ((), mT m i' (-1) (nI o) (b + ts.length) (apL A (130 + b) (ts.map mt_A)) (apL W (130 + b) (ts.map mw)))) : CM l c F o i i' (some ts) :=
  fun m b A W hT hb => ⟨fun ts' e => (by cases e; exact h m b A W hT hb), fun e => (by cases e)⟩
theorem CM_none {l : Nat} {c : Nat → Nat} {F : ej_M → Option (Unit × ej_M)} {o i i' : Nat} (h : ∀ (m : ej_M) (b : Nat) (A W : Nat → Int32), TpM l c m → b ≤ i → ∃ o' b' A' W', F (mT m i (-1) (nI o) b A W) = some ((), mT m i' (nI i') o' b' A' W') ∧ (b ≤ b' ∧ b' + i ≤ b + i' + 1) ∧ ∀ j, j < 130 + b → A' j = A j ∧ W' j = W j) : CM l c F o i i' none :=
  fun m b A W hT hb => ⟨fun ts' e => (by cases e), fun _ => h m b A W hT hb⟩
theorem CM_s {l : Nat} {c : Nat → Nat} {F : ej_M → Option (Unit × ej_M)} {o i i' b : Nat} {ts : List Int32} {m : ej_M} {A W : Nat → Int32} (h : CM l c F o i i' (some ts)) (hT : TpM l c m) (hb : b ≤ i) : F (mT m i (-1) (nI o) b A W) = some ((), mT m i' (-1) (nI o) (b + ts.length) (apL A (130 + b) (ts.map mt_A)) (apL W (130 + b) (ts.map mw))) := (h m b A W hT hb).1 ts rfl
theorem CM_n {l : Nat} {c : Nat → Nat} {F : ej_M → Option (Unit × ej_M)} {o i i' b : Nat} {m : ej_M} {A W : Nat → Int32} (h : CM l c F o i i' none) (hT : TpM l c m) (hb : b ≤ i) : ∃ o' b' A' W', F (mT m i (-1) (nI o) b A W) = some ((), mT m i' (nI i') o' b' A' W') ∧ (b ≤ b' ∧ b' + i ≤ b + i' + 1) ∧ ∀ j, j < 130 + b → A' j = A j ∧ W' j = W j := (h m b A W hT hb).2 rfl
-- digits
theorem x_isd {v : Int32} {m : ej_M} : ((48 ≤ v ∧ v ≤ 57) → f_X2_isDigit v m = some (1, m)) ∧ (¬ (48 ≤ v ∧ v ≤ 57) → f_X2_isDigit v m = some (0, m)) := by
  unfold f_X2_isDigit
  constructor
  · intro h
    rw [if_neg (Int32.not_lt.mpr h.1), if_neg (Int32.not_lt.mpr h.2)]
  · intro h
    by_cases h1 : v < 48
    · rw [if_pos h1]
    · rw [if_neg h1]
      by_cases h2 : 57 < v
      · rw [if_pos h2]
      · exact absurd ⟨Int32.not_lt.mp h1, Int32.not_lt.mp h2⟩ h
theorem sn_dg {l i : Nat} {c : Nat → Nat} (hc : HC l c) : (48 ≤ (if i < l then nI (c i) else (-1 : Int32)) ∧ (if i < l then nI (c i) else (-1 : Int32)) ≤ 57) ↔ dg (c i) := by
  by_cases e : i < l
  · have hb := hc.2.1 i e
    rw [if_pos e, show (48 : Int32) = nI 48 from rfl, show (57 : Int32) = nI 57 from rfl, nI_leI (by omega) (by omega), nI_leI (by omega) (by omega)]
    rfl
  · rw [if_neg e, hc.2.2 i (by omega)]
    exact ⟨fun h => absurd h (by decide), fun h => absurd h.2 (by decide)⟩
theorem x_isd1 {l i : Nat} {c : Nat → Nat} {m : ej_M} (hc : HC l c) (h : dg (c i)) : f_X2_isDigit (if i < l then nI (c i) else -1) m = some (1, m) := x_isd.1 ((sn_dg hc).mpr h)
theorem x_isd0 {l i : Nat} {c : Nat → Nat} {m : ej_M} (hc : HC l c) (h : ¬ dg (c i)) : f_X2_isDigit (if i < l then nI (c i) else -1) m = some (0, m) := x_isd.2 fun q => h ((sn_dg hc).mp q)
theorem m_dg1 {l i : Nat} {c : Nat → Nat} {m : ej_M} (hc : HC l c) (h : dg (c i)) : f_X11_in (lk (c i)) 48 57 m = some (1, m) := by
  rw [p_in, if_pos ((lk_dg (HC_lt hc)).mpr h)]
theorem m_dg0 {l i : Nat} {c : Nat → Nat} {m : ej_M} (hc : HC l c) (h : ¬ dg (c i)) : f_X11_in (lk (c i)) 48 57 m = some (0, m) := by
  rw [p_in, if_neg fun q => h ((lk_dg (HC_lt hc)).mp q)]
def vn (c : Nat → Nat) (i : Nat) : Nat → Nat
  | 0 => 0
  | k + 1 => vn c i k * 10 + (c (i + k) - 48)
theorem vn_lt {c : Nat → Nat} {i : Nat} : ∀ k, (∀ j, j < k → dg (c (i + j))) → vn c i k < 10 ^ k := by
  intro k
  induction k with
  | zero => intro _; exact Nat.zero_lt_one
  | succ k ih =>
    intro h
    have h1 := ih fun j hj => h j (by omega)
    have h2 := (h k (by omega)).2
    show vn c i k * 10 + (c (i + k) - 48) < 10 ^ k * 10
    omega
theorem dg_k (c : Nat → Nat) (i : Nat) : ∀ K, ∃ k, k ≤ K ∧ (∀ j, j < k → dg (c (i + j))) ∧ (k = K ∨ ¬ dg (c (i + k))) := by
  intro K
  induction K with
  | zero => exact ⟨0, Nat.le_refl _, fun j hj => absurd hj (Nat.not_lt_zero _), Or.inl rfl⟩
  | succ K ih =>
    obtain ⟨k, h1, h2, h3⟩ := ih
    rcases h3 with rfl | h3
    · by_cases h : dg (c (i + k))
      · refine ⟨k + 1, Nat.le_refl _, fun j hj => ?_, Or.inl rfl⟩
        by_cases e : j = k
        · rw [e]; exact h
        · exact h2 j (by omega)
      · exact ⟨k, by omega, h2, Or.inr h⟩
    · exact ⟨k, by omega, h2, Or.inr h3⟩
theorem vn_step {v ch : Nat} (h : dg ch) : nI v * 10 + nI ch - 48 = nI (v * 10 + (ch - 48)) := by
  have h1 := h.1
  rw [show (10 : Int32) = nI 10 from rfl, show (48 : Int32) = nI 48 from rfl, nI_mul, nI_add, nI_sub (by omega)]
  exact congrArg nI (by omega)
theorem loop_inl {S E : Type} {body : S → Option (S ⊕ E)} {s s' : S} {K : Nat} (h : body s = some (Sum.inl s')) : oj_loop body (K + 1) s = oj_loop body K s' := by
  show (match body s with | none => none | some (.inl s') => oj_loop body K s' | some (.inr e) => some e) = _
  rw [h]
theorem loop_inr {S E : Type} {body : S → Option (S ⊕ E)} {s : S} {e : E} {K : Nat} (h : body s = some (Sum.inr e)) : oj_loop body (K + 1) s = some e := by
  show (match body s with | none => none | some (.inl s') => oj_loop body K s' | some (.inr e) => some e) = _
  rw [h]
theorem loop_map {S E : Type} {body : S → Option (S ⊕ E)} {s : S} {x : Option E} {K : Nat} (h : body s = x.map fun y => Sum.inr y) : oj_loop body (K + 1) s = x := by
  show (match body s with | none => none | some (.inl s') => oj_loop body K s' | some (.inr e) => some e) = _
  rw [h]
  cases x <;> rfl
theorem x_digits {l i b k : Nat} {c : Nat → Nat} {m : ej_M} {g : Nat → Int32} (hc : HC l c) (hT : TpX l c m) (hb : b < 121) (h4 : k ≤ 4) (hk : i + k ≤ l) (hd : ∀ j, j < k → dg (c (i + j))) (he : k = 4 ∨ ¬ dg (c (i + k))) :
    ∀ e j K, j + e = k → e < K → oj_loop (fun q : (Int32 × Int32 × ej_M) => f_X2_readNumber_L4b q.1 q.2.1 q.2.2) K (nI (vn c i j), nI j, xT m (i + j) b g) = some (1, xT m (i + k) (b + 1) (upd g b (nI (vn c i k)))) := by
  have hl := hc.1
  intro e
  induction e with
  | zero =>
    intro j K hj hK
    obtain ⟨K, rfl⟩ : ∃ K', K = K' + 1 := ⟨K - 1, by omega⟩
    obtain rfl : j = k := by omega
    have hB : f_X2_readNumber_B48 (nI (vn c i j)) (xT m (i + j) b g) = some (1, xT m (i + j) (b + 1) (upd g b (nI (vn c i j)))) := by
      unfold f_X2_readNumber_B48
      rw [x_emit hb, o_bs]
    rw [← hB]
    refine loop_map ?_
    show f_X2_readNumber_L4b (nI (vn c i j)) (nI j) (xT m (i + j) b g) = _
    unfold f_X2_readNumber_L4b
    by_cases h : j = 4
    · rw [if_pos (by rw [h]; decide)]
    · rw [if_neg (fun q => by have := (nI_leI (a := 4) (by decide) (by omega)).mp q; omega), x_seen hc hT hk, o_bs, x_isd0 hc (he.resolve_left h), o_bs, if_pos rfl]
  | succ e ih =>
    intro j K hj hK
    obtain ⟨K, rfl⟩ : ∃ K', K = K' + 1 := ⟨K - 1, by omega⟩
    have hdj := hd j (by omega)
    refine (loop_inl ?_).trans (ih (j + 1) K (by omega) (by omega))
    show f_X2_readNumber_L4b (nI (vn c i j)) (nI j) (xT m (i + j) b g) = _
    unfold f_X2_readNumber_L4b
    rw [if_neg (fun q => by have := (nI_leI (a := 4) (by decide) (by omega)).mp q; omega), x_seen hc hT (by omega), o_bs, x_isd1 hc hdj, o_bs, if_neg i10, x_seen hc hT (by omega), o_bs]
    unfold oj_pf
    rw [o_bs, xT_12, nI_1, nI_1, xT_go, if_pos (show i + j < l by omega), vn_step hdj]
    rfl
theorem x_numb {l i b k : Nat} {c : Nat → Nat} {m : ej_M} {g : Nat → Int32} (hc : HC l c) (hT : TpX l c m) (hb : b < 121) (h4 : k ≤ 4) (hk : i + k ≤ l) (hd : ∀ j, j < k → dg (c (i + j))) (he : k = 4 ∨ ¬ dg (c (i + k))) :
    f_X2_readNumber (xT m i b g) = some (1, xT m (i + k) (b + 1) (upd g b (nI (vn c i k)))) := x_digits hc hT hb h4 hk hd he k 0 oj_FU (by omega) (by unfold oj_FU; omega)
theorem m_digits {l i b k : Nat} {f o : Int32} {c : Nat → Nat} {m : ej_M} {A W : Nat → Int32} (hc : HC l c) (hT : TpM l c m) (h4 : k ≤ 4) (hk : i + k ≤ l) (hd : ∀ j, j < k → dg (c (i + j))) (he : k = 4 ∨ ¬ dg (c (i + k))) :
    ∀ e j K, j + e = k → e < K → oj_loop (fun q : (Int32 × Int32 × ej_M) => f_X11_figure_L4b q.1 q.2.1 q.2.2) K (nI (vn c i j), nI j, mT m (i + j) f o b A W) = f_X11_figure_B52 (nI (vn c i k)) (nI k) (mT m (i + k) f o b A W) := by
  have hl := hc.1
  intro e
  induction e with
  | zero =>
    intro j K hj hK
    obtain ⟨K, rfl⟩ : ∃ K', K = K' + 1 := ⟨K - 1, by omega⟩
    obtain rfl : j = k := by omega
    refine loop_map ?_
    show f_X11_figure_L4b (nI (vn c i j)) (nI j) (mT m (i + j) f o b A W) = _
    unfold f_X11_figure_L4b
    by_cases h : j = 4
    · rw [if_pos (by rw [h]; decide)]
    · rw [if_neg (fun q => by have := (nI_leI (a := 4) (by decide) (by omega)).mp q; omega), m_look hc hT hk, o_bs, m_dg0 hc (he.resolve_left h), o_bs, if_pos rfl]
  | succ e ih =>
    intro j K hj hK
    obtain ⟨K, rfl⟩ : ∃ K', K = K' + 1 := ⟨K - 1, by omega⟩
    have hdj := hd j (by omega)
    refine (loop_inl ?_).trans (ih (j + 1) K (by omega) (by omega))
    show f_X11_figure_L4b (nI (vn c i j)) (nI j) (mT m (i + j) f o b A W) = _
    unfold f_X11_figure_L4b
    rw [if_neg (fun q => by have := (nI_leI (a := 4) (by decide) (by omega)).mp q; omega), m_look hc hT (by omega), o_bs, m_dg1 hc hdj, o_bs, if_neg i10, m_look hc hT (by omega), o_bs]
    unfold oj_pf
    rw [o_bs, mT_16, nI_1, nI_1, mT_w16, lk_lo (by have := hdj.2; omega), Int32.mul_comm, vn_step hdj]
    rfl
theorem m_figure1 {l i b k : Nat} {o : Int32} {c : Nat → Nat} {m : ej_M} {A W : Nat → Int32} (hc : HC l c) (hT : TpM l c m) (hb : b < 130) (h4 : k ≤ 4) (h0 : 1 ≤ k) (hk : i + k ≤ l) (hd : ∀ j, j < k → dg (c (i + j))) (he : ¬ dg (c (i + k))) :
    f_X11_figure (mT m i (-1) o b A W) = some ((), mT m (i + k) (-1) o (b + 1) (upd A (130 + b) (nI 1)) (upd W (130 + b) (nI (vn c i k)))) := by
  refine (m_digits hc hT h4 hk hd (Or.inr he) k 0 oj_FU (by omega) (by unfold oj_FU; omega)).trans ?_
  unfold f_X11_figure_B52
  rw [if_neg (fun q => by have := (nI_eq0 (by omega)).mp q; omega), m_look hc hT hk, o_bs, m_dg0 hc he, o_bs, if_pos rfl]
  unfold f_X11_figure_B74
  rw [show (1 : Int32) = nI 1 from rfl, m_step (by decide) hb, o_bs]
theorem m_figure0 {l i b k : Nat} {o : Int32} {c : Nat → Nat} {m : ej_M} {A W : Nat → Int32} (hc : HC l c) (hT : TpM l c m) (hb : b < 130) (h4 : k ≤ 4) (hk : i + k ≤ l) (hd : ∀ j, j < k → dg (c (i + j))) (he : k = 4 ∨ ¬ dg (c (i + k))) (hw : k = 0 ∨ dg (c (i + k))) :
    f_X11_figure (mT m i (-1) o b A W) = some ((), mT m (i + k) (nI (i + k)) o (b + 1) (upd A (130 + b) (nI 1)) (upd W (130 + b) (nI (vn c i k)))) := by
  refine (m_digits hc hT h4 hk hd he k 0 oj_FU (by omega) (by unfold oj_FU; omega)).trans ?_
  have hB : f_X11_figure_B70 (nI (vn c i k)) (mT m (i + k) (-1) o b A W) = some ((), mT m (i + k) (nI (i + k)) o (b + 1) (upd A (130 + b) (nI 1)) (upd W (130 + b) (nI (vn c i k)))) := by
    unfold f_X11_figure_B70 f_X11_figure_B74
    rw [m_faulty, o_bs, show (1 : Int32) = nI 1 from rfl, m_step (by decide) hb, o_bs]
  unfold f_X11_figure_B52
  by_cases h : k = 0
  · rw [if_pos (by rw [h]; rfl)]
    exact hB
  · rw [if_neg (fun q => by have := (nI_eq0 (by omega)).mp q; omega), m_look hc hT hk, o_bs, m_dg1 hc (hw.resolve_left h), o_bs, if_neg i10]
    exact hB
