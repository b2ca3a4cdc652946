def fe_E (n : Nat) (kd th el : Nat → Int32) (x z : Nat) : Prop := x < n ∧ ((¬ kd x = 0 ∧ (th x).toNatClampNeg = z) ∨ (kd x = 2 ∧ (el x).toNatClampNeg = z))
def fe_st (n x : Nat) : Prop := x = 0 ∧ 0 < n
def fe_ok (n : Nat) (kd th el : Nat → Int32) : Prop := n ≤ 16 ∧ ∀ x, x < n → (kd x = 0 ∨ kd x = 1 ∨ kd x = 2) ∧ (¬ kd x = 0 → ∃ t, 1 ≤ t ∧ t < n ∧ th x = nI t) ∧ (kd x = 2 → ∃ t, 1 ≤ t ∧ t < n ∧ el x = nI t)
def fe_ev (n : Nat) (kd ev : Nat → Int32) : Prop := ∀ x, x < n → ¬ kd x = 1 → ∃ v, v < 6 ∧ ev x = nI v
def fe_i1 (op d a b : Nat → Int32) (q : Nat) : Prop :=
  (∃ o, o < 8 ∧ op q = nI o ∧ (1 ≤ o → o ≤ 6 → ∃ v, v < 6 ∧ a q = nI v) ∧ (2 ≤ o → o ≤ 6 → ∃ v, v < 6 ∧ b q = nI v)) ∧ ∃ v, v < 6 ∧ d q = nI v
def fe_is (n : Nat) (sz op d a b : Nat → Int32) : Prop := ∀ x, x < n → ∃ s, s ≤ 4 ∧ sz x = nI s ∧ ∀ i, i < s → fe_i1 op d a b (4 * x + i)
/-- what the reference holds of the exits -/
def fe_rl (n : Nat) (kd ev th el us f1 f2 : Nat → Int32) : Prop := ∀ x, x < n → (kd x = 1 → us x = -1) ∧ (¬ kd x = 1 → us x = ev x) ∧ (¬ kd x = 0 → f1 x = th x) ∧ (kd x = 2 → f2 x = el x)
section
variable {n : Nat} {kd ev th el sz op d a b us f1 f2 : Nat → Int32}
theorem fe_El (h : fe_ok n kd th el) {x z : Nat} (e : fe_E n kd th el x z) : z < n := by
  obtain ⟨hx, e⟩ := e
  have h1 := h.2 x hx
  have h0 := h.1
  rcases e with ⟨k, e⟩ | ⟨k, e⟩
  · obtain ⟨t, _, ht, e2⟩ := h1.2.1 k
    rw [e2, nI_clamp (by omega)] at e
    omega
  · obtain ⟨t, _, ht, e2⟩ := h1.2.2 k
    rw [e2, nI_clamp (by omega)] at e
    omega
theorem fe_E16 (h : fe_ok n kd th el) (x z : Nat) (e : fe_E n kd th el x z) : z < 16 := by
  have := fe_El h e
  have := h.1
  omega
theorem fe_st16 (h : fe_ok n kd th el) (x : Nat) (e : fe_st n x) : x < 16 := by
  have := h.1
  have := e.1
  omega
theorem fe_Mn (h : fe_ok n kd th el) {x : Nat} (m : fd_M (fe_E n kd th el) (fe_st n) x) : x < n :=
  fr_lt (fun x e => by have := e.1; have := e.2; omega) (fun _ _ e => fe_El h e) m
theorem fe_E0 {x z : Nat} (hx : x < n) (k : kd x = 0) : ¬ fe_E n kd th el x z := by
  intro e
  rcases e.2 with ⟨k1, _⟩ | ⟨k1, _⟩
  · exact k1 k
  · rw [k] at k1; exact absurd k1 (by decide)
theorem fe_E1 {x z t : Nat} (hx : x < n) (k : kd x = 1) (e : th x = nI t) (ht : t < 16) : fe_E n kd th el x z ↔ z = t := by
  unfold fe_E
  rw [e, nI_clamp (by omega), k]
  constructor
  · rintro ⟨_, ⟨_, e⟩ | ⟨k1, _⟩⟩
    · exact e.symm
    · exact absurd k1 (by decide)
  · intro e
    exact ⟨hx, Or.inl ⟨by decide, e.symm⟩⟩
theorem fe_E2 {x z t t' : Nat} (hx : x < n) (k : kd x = 2) (e : th x = nI t) (ht : t < 16) (e' : el x = nI t') (ht' : t' < 16) : fe_E n kd th el x z ↔ (z = t ∨ z = t') := by
  unfold fe_E
  rw [e, e', nI_clamp (by omega), nI_clamp (by omega), k]
  constructor
  · rintro ⟨_, ⟨_, e⟩ | ⟨_, e⟩⟩
    · exact Or.inl e.symm
    · exact Or.inr e.symm
  · rintro (e | e)
    · exact ⟨hx, Or.inl ⟨by decide, e.symm⟩⟩
    · exact ⟨hx, Or.inr ⟨rfl, e.symm⟩⟩
/-- one block's exits: three cases, with its targets -/
theorem fe_cs (h : fe_ok n kd th el) {x : Nat} (hx : x < n) {P : Prop} (h0 : kd x = 0 → P) (h1 : ∀ t, kd x = 1 → 1 ≤ t → t < n → th x = nI t → P)
    (h2 : ∀ t t', kd x = 2 → 1 ≤ t → t < n → th x = nI t → 1 ≤ t' → t' < n → el x = nI t' → P) : P := by
  have q := h.2 x hx
  rcases q.1 with k | k | k
  · exact h0 k
  · obtain ⟨t, l, r, e⟩ := q.2.1 (by rw [k]; decide)
    exact h1 t k l r e
  · obtain ⟨t, l, r, e⟩ := q.2.1 (by rw [k]; decide)
    obtain ⟨t', l', r', e'⟩ := q.2.2 k
    exact h2 t t' k l r e l' r' e'
end
/-- the variables that an instruction uses -/
def fe_u (op a b : Int32) : Int32 := (if 1 ≤ op ∧ op ≤ 6 then (1 : Int32) <<< (a &&& 31) else 0) ||| (if 2 ≤ op ∧ op ≤ 6 then (1 : Int32) <<< (b &&& 31) else 0)
def fe_m (d : Nat → Int32) (x i : Nat) : Int32 := (1 : Int32) <<< (d (4 * x + i) &&& 31)
def fe_d (d : Nat → Int32) (x i : Nat) : Nat := (d (4 * x + i)).toNatClampNeg
def fe_us (op a b : Nat → Int32) (x i : Nat) : Int32 := fe_u (op (4 * x + i)) (a (4 * x + i)) (b (4 * x + i))
/-- what is wanted before the exit of x -/
def fe_x (kd ev th el : Nat → Int32) (L : Nat → Int32) (x : Nat) : Int32 :=
  ((if kd x = 1 then 0 else (1 : Int32) <<< (ev x &&& 31)) ||| (if kd x = 0 then 0 else L (th x).toNatClampNeg)) ||| (if kd x = 2 then L (el x).toNatClampNeg else 0)
theorem fe_mb {d : Nat → Int32} {x i v : Nat} (h : d (4 * x + i) = nI v) (hv : v < 6) (j : Nat) : bt (fe_m d x i) j = true ↔ j = fe_d d x i := by
  unfold fe_m fe_d
  rw [h, nI_clamp (by omega), fa_sg (by omega), decide_eq_true_iff]
section
variable {n : Nat} {kd ev th el : Nat → Int32}
theorem fe_xb (h : fe_ok n kd th el) (hv : fe_ev n kd ev) {x : Nat} (hx : x < n) (L : Nat → Int32) (i : Nat) :
    bt (fe_x kd ev th el L x) i = true ↔ ((¬ kd x = 1 ∧ i = (ev x).toNatClampNeg) ∨ ∃ y, fe_E n kd th el x y ∧ bt (L y) i = true) := by
  have h0 := h.1
  have hv' := hv x hx
  unfold fe_x
  rw [b_or, b_or, Bool.or_eq_true, Bool.or_eq_true]
  have e1 : bt (if kd x = 1 then 0 else (1 : Int32) <<< (ev x &&& 31)) i = true ↔ (¬ kd x = 1 ∧ i = (ev x).toNatClampNeg) := by
    by_cases k : kd x = 1
    · rw [if_pos k, b_0]
      exact ⟨fun z => absurd z Bool.false_ne_true, fun z => absurd k z.1⟩
    · obtain ⟨v, hv2, e⟩ := hv' k
      rw [if_neg k, e, nI_clamp (by omega), fa_sg (by omega), decide_eq_true_iff]
      exact ⟨fun z => ⟨k, z⟩, fun z => z.2⟩
  rw [e1]
  refine fe_cs h hx (fun k => ?_) (fun t k _ ht e => ?_) (fun t t' k _ ht e _ ht' e' => ?_)
  · rw [if_pos k, if_neg (by rw [k]; decide), b_0]
    constructor
    · rintro ((z | z) | z)
      · exact Or.inl z
      · exact absurd z Bool.false_ne_true
      · exact absurd z Bool.false_ne_true
    · rintro (z | ⟨y, z, _⟩)
      · exact Or.inl (Or.inl z)
      · exact absurd z (fe_E0 hx k)
  · rw [if_neg (by rw [k]; decide), if_neg (by rw [k]; decide), b_0, e, nI_clamp (by omega)]
    constructor
    · rintro ((z | z) | z)
      · exact Or.inl z
      · exact Or.inr ⟨t, (fe_E1 hx k e (by omega)).mpr rfl, z⟩
      · exact absurd z Bool.false_ne_true
    · rintro (z | ⟨y, z, w⟩)
      · exact Or.inl (Or.inl z)
      · rw [(fe_E1 hx k e (by omega)).mp z] at w
        exact Or.inl (Or.inr w)
  · rw [if_neg (by rw [k]; decide), if_pos k, e, e', nI_clamp (by omega), nI_clamp (by omega)]
    constructor
    · rintro ((z | z) | z)
      · exact Or.inl z
      · exact Or.inr ⟨t, (fe_E2 hx k e (by omega) e' (by omega)).mpr (Or.inl rfl), z⟩
      · exact Or.inr ⟨t', (fe_E2 hx k e (by omega) e' (by omega)).mpr (Or.inr rfl), z⟩
    · rintro (z | ⟨y, z, w⟩)
      · exact Or.inl (Or.inl z)
      · rcases (fe_E2 hx k e (by omega) e' (by omega)).mp z with z | z
        · rw [z] at w; exact Or.inl (Or.inr w)
        · rw [z] at w; exact Or.inr w
/-- it grows with what is wanted at the beginnings behind -/
theorem fe_xm (h : fe_ok n kd th el) (hv : fe_ev n kd ev) {x : Nat} (hx : x < n) {L M : Nat → Int32} (hL : ∀ y, fe_E n kd th el x y → fa_sb (L y) (M y)) : fa_sb (fe_x kd ev th el L x) (fe_x kd ev th el M x) := by
  intro i hi
  rw [fe_xb h hv hx] at hi ⊢
  exact hi.imp id (fun ⟨y, e, z⟩ => ⟨y, e, hL y e i z⟩)
end
/-- LIVES: every instruction counts -/
def fe_WA (sz kd ev th el op d a b : Nat → Int32) (L : Nat → Int32) (x : Nat) : Int32 :=
  fw_d (fun i w => fw_g (fe_m d x i) (fe_us op a b x i) w) (fe_x kd ev th el L x) (sz x).toNatClampNeg (sz x).toNatClampNeg
theorem fe_WAm {n : Nat} {sz kd ev th el op d a b : Nat → Int32} (h : fe_ok n kd th el) (hv : fe_ev n kd ev) : fl_mo n (fe_WA sz kd ev th el op d a b) := by
  intro L M hL x hx
  refine fw_mo (fe_xm h hv hx (fun y e => hL y (fe_El h e))) _ (fun i _ z => fw_gm z)
theorem fe_l1 : ∀ o, o < 8 → ((1 : Int32) ≤ nI o ↔ 1 ≤ o) := by decide +kernel
theorem fe_l2 : ∀ o, o < 8 → ((2 : Int32) ≤ nI o ↔ 2 ≤ o) := by decide +kernel
theorem fe_l6 : ∀ o, o < 8 → (nI o ≤ (6 : Int32) ↔ o ≤ 6) := by decide +kernel
theorem fe_ub {o : Nat} (ho : o < 8) {a b : Int32} (ha : 1 ≤ o → o ≤ 6 → ∃ v, v < 6 ∧ a = nI v) (hb : 2 ≤ o → o ≤ 6 → ∃ v, v < 6 ∧ b = nI v) (i : Nat) :
    bt (fe_u (nI o) a b) i = true ↔ ((1 ≤ o ∧ o ≤ 6 ∧ i = a.toNatClampNeg) ∨ (2 ≤ o ∧ o ≤ 6 ∧ i = b.toNatClampNeg)) := by
  unfold fe_u
  rw [sl_or]
  have e1 : bt (if (1 : Int32) ≤ nI o ∧ nI o ≤ 6 then (1 : Int32) <<< (a &&& 31) else 0) i = true ↔ (1 ≤ o ∧ o ≤ 6 ∧ i = a.toNatClampNeg) := by
    by_cases h : 1 ≤ o ∧ o ≤ 6
    · rw [if_pos ⟨(fe_l1 o ho).mpr h.1, (fe_l6 o ho).mpr h.2⟩]
      obtain ⟨v, hv, e⟩ := ha h.1 h.2
      rw [e, sl_sg (by omega), nI_clamp (by omega)]
      exact ⟨fun z => ⟨h.1, h.2, z⟩, fun z => z.2.2⟩
    · rw [if_neg (fun z => h ⟨(fe_l1 o ho).mp z.1, (fe_l6 o ho).mp z.2⟩)]
      exact ⟨fun z => absurd z (sl_no i), fun z => absurd ⟨z.1, z.2.1⟩ h⟩
  have e2 : bt (if (2 : Int32) ≤ nI o ∧ nI o ≤ 6 then (1 : Int32) <<< (b &&& 31) else 0) i = true ↔ (2 ≤ o ∧ o ≤ 6 ∧ i = b.toNatClampNeg) := by
    by_cases h : 2 ≤ o ∧ o ≤ 6
    · rw [if_pos ⟨(fe_l2 o ho).mpr h.1, (fe_l6 o ho).mpr h.2⟩]
      obtain ⟨v, hv, e⟩ := hb h.1 h.2
      rw [e, sl_sg (by omega), nI_clamp (by omega)]
      exact ⟨fun z => ⟨h.1, h.2, z⟩, fun z => z.2.2⟩
    · rw [if_neg (fun z => h ⟨(fe_l2 o ho).mp z.1, (fe_l6 o ho).mp z.2⟩)]
      exact ⟨fun z => absurd z (sl_no i), fun z => absurd ⟨z.1, z.2.1⟩ h⟩
  rw [e1, e2]
/-- one instruction: what it is, with its variables -/
theorem fe_ix {n : Nat} {sz op d a b : Nat → Int32} (h : fe_is n sz op d a b) {x : Nat} (hx : x < n) : ∃ s, s ≤ 4 ∧ sz x = nI s ∧ (sz x).toNatClampNeg = s ∧ ∀ i, i < s → fe_i1 op d a b (4 * x + i) := by
  obtain ⟨s, h1, h2, h3⟩ := h x hx
  exact ⟨s, h1, h2, by rw [h2, nI_clamp (by omega)], h3⟩
