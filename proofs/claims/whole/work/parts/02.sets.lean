theorem fa_1 : ∀ i, i < 32 → bt 1 i = decide (i = 0) := by decide +kernel
theorem fa_and1 (x : Int32) : (x &&& 1) = 0 ↔ bt x 0 = false := by
  constructor
  · intro h
    have e : bt (x &&& 1) 0 = bt (0 : Int32) 0 := by rw [h]
    rw [b_and, fa_1 0 (by omega), b_0] at e
    simpa using e
  · intro h
    apply b_ext
    intro i hi
    rw [b_and, fa_1 i hi, b_0]
    by_cases z : i = 0
    · subst z; rw [h]; rfl
    · simp [z]
/-- the test of a bit, as both classes write it -/
theorem fa_t (s : Int32) {i : Nat} (hi : i < 32) : ((s >>> (nI i &&& 31)) &&& 1) = 0 ↔ bt s i = false := by
  rw [fa_and1, b_sshr i hi s (by omega : 0 < 32), Nat.add_zero, if_pos hi]
theorem fa_sg {j : Nat} (hj : j < 32) (i : Nat) : bt ((1 : Int32) <<< (nI j &&& 31)) i = decide (i = j) := by
  by_cases hi : i < 32
  · rw [b_shl j hj 1 hi]
    by_cases e : j ≤ i
    · rw [fa_1 (i - j) (by omega), decide_eq_true e, Bool.true_and]
      exact decide_eq_decide.mpr (by omega)
    · rw [decide_eq_false e, Bool.false_and, decide_eq_false (by omega)]
  · rw [b_big (by omega), decide_eq_false (by omega)]
theorem fa_not (x : Int32) {i : Nat} (hi : i < 32) : bt (x ^^^ (-1)) i = !(bt x i) := by
  rw [b_xor, b_m1 i hi]
  cases bt x i <;> rfl
theorem fa_dif (x y : Int32) (i : Nat) : bt (x &&& (y ^^^ (-1))) i = (bt x i && !(bt y i)) := by
  by_cases hi : i < 32
  · rw [b_and, fa_not y hi]
  · rw [b_big (by omega), b_big (by omega), Bool.false_and]
/-- one set is within another -/
def fa_sb (s t : Int32) : Prop := ∀ i, bt s i = true → bt t i = true
theorem fa_sb_r (s : Int32) : fa_sb s s := fun _ h => h
theorem fa_sb_t {s t w : Int32} (h : fa_sb s t) (h' : fa_sb t w) : fa_sb s w := fun i z => h' i (h i z)
theorem fa_sb_a {s t : Int32} (h : fa_sb s t) (h' : fa_sb t s) : s = t := b_ext (fun i _ => Bool.eq_iff_iff.mpr ⟨h i, h' i⟩)
theorem fa_ext {s t : Int32} (h : ∀ i, bt s i = true ↔ bt t i = true) : s = t := b_ext (fun i _ => Bool.eq_iff_iff.mpr (h i))
/-- all members are below m -/
def fa_wi (m : Nat) (s : Int32) : Prop := ∀ i, bt s i = true → i < m
def fa_cn (p : Nat → Bool) : Nat → Nat
  | 0 => 0
  | m + 1 => fa_cn p m + (if p m = true then 1 else 0)
theorem fa_cn_le (p : Nat → Bool) : ∀ m, fa_cn p m ≤ m
  | 0 => Nat.le_refl 0
  | m + 1 => by
    have := fa_cn_le p m
    unfold fa_cn
    split <;> omega
theorem fa_cn_mo {p q : Nat → Bool} (h : ∀ i, p i = true → q i = true) : ∀ m, fa_cn p m ≤ fa_cn q m
  | 0 => Nat.le_refl 0
  | m + 1 => by
    have := fa_cn_mo h m
    have hm := h m
    unfold fa_cn
    by_cases z : p m = true
    · rw [if_pos z, if_pos (hm z)]; omega
    · rw [if_neg z]; omega
theorem fa_cn_lt {p q : Nat → Bool} (h : ∀ i, p i = true → q i = true) {i : Nat} (hp : p i = false) (hq : q i = true) : ∀ m, i < m → fa_cn p m < fa_cn q m
  | 0, hi => absurd hi (Nat.not_lt_zero i)
  | m + 1, hi => by
    have hm := h m
    have h1 := fa_cn_mo h m
    unfold fa_cn
    by_cases e : i = m
    · subst e
      rw [if_pos hq, if_neg (by rw [hp]; exact Bool.false_ne_true)]; omega
    · have h2 := fa_cn_lt h hp hq m (by omega)
      by_cases z : p m = true
      · rw [if_pos z, if_pos (hm z)]; omega
      · rw [if_neg z]; omega
theorem fa_cn_all {p : Nat → Bool} : ∀ m, m ≤ fa_cn p m → ∀ i, i < m → p i = true
  | 0, _, i, hi => absurd hi (Nat.not_lt_zero i)
  | m + 1, h, i, hi => by
    have h1 := fa_cn_le p m
    unfold fa_cn at h
    by_cases z : p m = true
    · rw [if_pos z] at h
      by_cases e : i = m
      · rw [e]; exact z
      · exact fa_cn_all m (by omega) i (by omega)
    · rw [if_neg z] at h; omega
/-- two sets that differ, one within the other: a member tells them apart -/
theorem fa_df {s t : Int32} (h : fa_sb s t) (e : ¬ t = s) : ∃ i, bt s i = false ∧ bt t i = true := by
  apply Classical.byContradiction
  intro z
  apply e
  refine fa_sb_a (fun i hi => ?_) h
  cases hs : bt s i
  · exact absurd ⟨i, hs, hi⟩ z
  · rfl
/-- a row of sets that grow by one rule: unchanged, or one larger at each turn -/
theorem fa_it {F : Int32 → Int32} {m k : Nat} {s : Int32} (hm : fa_sb s (F s) → fa_sb (F s) (F (F s))) (hw : fa_wi m (F s))
    (h2 : fa_sb s (F s)) (h3 : F s = s ∨ k ≤ fa_cn (bt s) m) : fa_sb (F s) (F (F s)) ∧ (F (F s) = F s ∨ k + 1 ≤ fa_cn (bt (F s)) m) := by
  refine ⟨hm h2, ?_⟩
  by_cases e : F s = s
  · exact Or.inl (by rw [e, e])
  · obtain ⟨i, hi, hj⟩ := fa_df h2 e
    have h4 := fa_cn_lt h2 hi hj m (hw i hj)
    rcases h3 with h3 | h3
    · exact absurd h3 e
    · exact Or.inr (by omega)
theorem fa_fin {F : Int32 → Int32} {m : Nat} {s : Int32} (hw : fa_wi m (F s)) (h2 : fa_sb s (F s)) (h3 : F s = s ∨ m ≤ fa_cn (bt s) m) : F s = s := by
  rcases h3 with h3 | h3
  · exact h3
  · exact fa_sb_a (fun i hi => fa_cn_all m h3 i (hw i hi)) h2
/-- numbers of sets: a set that grows, grows as a number -/
def fa_nu (s : Int32) : Nat := s.toBitVec.toNat
theorem fa_nu_lt {s t : Int32} (h : fa_sb s t) (e : ¬ t = s) : fa_cn (bt s) 32 < fa_cn (bt t) 32 := by
  obtain ⟨i, hi, hj⟩ := fa_df h e
  refine fa_cn_lt h hi hj 32 ?_
  apply Classical.byContradiction
  intro z
  rw [b_big (by omega)] at hj
  exact Bool.false_ne_true hj
