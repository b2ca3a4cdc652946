def sl_in (base : Nat → Prop) (G : Nat → Nat → Prop) (j : Nat) (f : Int32) : Prop := ∀ i, bt f i = true ↔ (base i ∨ ∃ x, x < j ∧ G x i)
section
variable {base : Nat → Prop} {G : Nat → Nat → Prop} {j : Nat} {f f' : Int32}
theorem sl_0 (h : ∀ i, bt f i = true ↔ base i) : sl_in base G 0 f := by
  intro i
  rw [h i]
  exact ⟨Or.inl, fun z => z.elim id (fun ⟨x, hx, _⟩ => absurd hx (Nat.not_lt_zero x))⟩
theorem sl_00 (h : ∀ i, ¬ base i) : sl_in base G 0 0 := by
  refine sl_0 (fun i => ?_)
  rw [b_0]
  exact ⟨fun z => absurd z Bool.false_ne_true, fun z => absurd z (h i)⟩
theorem sl_1 (h : sl_in base G j f) (h' : ∀ i, bt f' i = true ↔ (bt f i = true ∨ G j i)) : sl_in base G (j + 1) f' := by
  intro i
  rw [h' i, h i]
  constructor
  · rintro ((z | ⟨x, hx, z⟩) | z)
    · exact Or.inl z
    · exact Or.inr ⟨x, by omega, z⟩
    · exact Or.inr ⟨j, by omega, z⟩
  · rintro (z | ⟨x, hx, z⟩)
    · exact Or.inl (Or.inl z)
    · by_cases e : x = j
      · rw [e] at z
        exact Or.inr z
      · exact Or.inl (Or.inr ⟨x, by omega, z⟩)
theorem sl_n (h : sl_in base G j f) (h' : ∀ i, ¬ G j i) : sl_in base G (j + 1) f :=
  sl_1 h (fun i => ⟨Or.inl, fun z => z.elim id (fun y => absurd y (h' i))⟩)
theorem sl_e (h : sl_in base G j f) (hj : ∀ x i, G x i → x < j) (i : Nat) : bt f i = true ↔ (base i ∨ ∃ x, G x i) := by
  rw [h i]
  exact ⟨fun z => z.imp id (fun ⟨x, _, y⟩ => ⟨x, y⟩), fun z => z.imp id (fun ⟨x, y⟩ => ⟨x, hj x i y, y⟩)⟩
end
theorem sl_or (f g : Int32) (i : Nat) : bt (f ||| g) i = true ↔ (bt f i = true ∨ bt g i = true) := by rw [b_or, Bool.or_eq_true]
theorem sl_an (f g : Int32) (i : Nat) : bt (f &&& g) i = true ↔ (bt f i = true ∧ bt g i = true) := by rw [b_and, Bool.and_eq_true]
theorem sl_df (f g : Int32) (i : Nat) : bt (f &&& (g ^^^ (-1))) i = true ↔ (bt f i = true ∧ ¬ bt g i = true) := by
  rw [fa_dif, Bool.and_eq_true, Bool.not_eq_true', Bool.not_eq_true]
theorem sl_sg {t : Nat} (ht : t < 32) (i : Nat) : bt ((1 : Int32) <<< (nI t &&& 31)) i = true ↔ i = t := by rw [fa_sg ht, decide_eq_true_iff]
theorem sl_no (i : Nat) : ¬ bt (0 : Int32) i = true := by rw [b_0]; exact Bool.false_ne_true
theorem sl_b1 (i : Nat) : bt (1 : Int32) i = true ↔ i = 0 := by
  by_cases h : i < 32
  · rw [fa_1 i h, decide_eq_true_iff]
  · rw [b_big (by omega)]
    exact ⟨fun z => absurd z Bool.false_ne_true, fun z => by omega⟩
/-- two sets meet -/
theorem sl_me (f g : Int32) : (f &&& g) = 0 ↔ ¬ ∃ i, bt f i = true ∧ bt g i = true := by
  constructor
  · rintro h ⟨i, hi⟩
    have := (sl_an f g i).mpr hi
    rw [h] at this
    exact sl_no i this
  · intro h
    apply fa_ext
    intro i
    exact ⟨fun z => absurd ⟨i, (sl_an f g i).mp z⟩ h, fun z => absurd z (sl_no i)⟩
theorem sl_z (f : Int32) : f = 0 ↔ ¬ ∃ i, bt f i = true := by
  constructor
  · rintro h ⟨i, hi⟩
    rw [h] at hi
    exact sl_no i hi
  · intro h
    apply fa_ext
    intro i
    exact ⟨fun z => absurd ⟨i, z⟩ h, fun z => absurd z (sl_no i)⟩
/-- a Bool for a proposition -/
noncomputable def fa_pc (P : Nat → Prop) (h : Nat) : Bool := @decide (P h) (Classical.propDecidable _)
theorem fa_pt {P : Nat → Prop} {h : Nat} : fa_pc P h = true ↔ P h := by
  unfold fa_pc
  exact @decide_eq_true_iff (P h) (Classical.propDecidable _)
theorem fa_cn1 {p : Nat → Bool} {m : Nat} (h : p m = true) : fa_cn p (m + 1) = fa_cn p m + 1 := by
  show fa_cn p m + (if p m = true then 1 else 0) = _
  rw [if_pos h]
theorem fa_cn0 {p : Nat → Bool} {m : Nat} (h : ¬ p m = true) : fa_cn p (m + 1) = fa_cn p m := by
  show fa_cn p m + (if p m = true then 1 else 0) = _
  rw [if_neg h]
  rfl
theorem fa_cnE {p q : Nat → Bool} : ∀ m, (∀ i, i < m → (p i = true ↔ q i = true)) → fa_cn p m = fa_cn q m
  | 0, _ => rfl
  | m + 1, h => by
    have h1 := fa_cnE m (fun i hi => h i (by omega))
    have h2 := h m (by omega)
    by_cases z : p m = true
    · rw [fa_cn1 z, fa_cn1 (h2.mp z), h1]
    · rw [fa_cn0 z, fa_cn0 (fun y => z (h2.mpr y)), h1]
/-- what lies above counts nothing -/
theorem fa_cnU {p : Nat → Bool} {m : Nat} (h : ∀ i, p i = true → i < m) : ∀ k, fa_cn p (m + k) = fa_cn p m
  | 0 => rfl
  | k + 1 => by
    show fa_cn p ((m + k) + 1) = _
    rw [fa_cn0 (fun z => by have := h _ z; omega), fa_cnU h k]
theorem fa_cn16 {p : Nat → Bool} {m : Nat} (hm : m ≤ 16) (h : ∀ i, p i = true → i < m) : fa_cn p 16 = fa_cn p m := by
  have e : 16 = m + (16 - m) := by omega
  rw [e]
  exact fa_cnU h _
