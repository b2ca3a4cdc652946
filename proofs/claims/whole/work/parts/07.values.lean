def fz_V : Int64 := 10000000001
def fz_N : Int64 := 10000000000
def fz_ok (x : Int64) : Prop := x = fz_V ∨ ∃ c : Int32, x = c.toInt64
def fz_le (x y : Int64) : Prop := x = y ∨ y = fz_V
theorem fz_rf (x : Int64) : fz_le x x := Or.inl rfl
/-- the constants worked out -/
def fz_w (op x y : Int32) : Int32 := if op = 2 then x + y else if op = 3 then x - y else if op = 4 then x * y else if op = 5 then (if x < y then 1 else 0) else if y = 0 then 0 else x / y
/-- what an instruction sets, out of the values now -/
def fz_v (op a b : Int32) (now : Nat → Int64) : Int64 :=
  if op = 7 then fz_V else if op = 0 then a.toInt64 else if op = 1 then now a.toNatClampNeg else
  if op = 4 ∧ (now a.toNatClampNeg = 0 ∨ now b.toNatClampNeg = 0) then 0 else
  if now a.toNatClampNeg = fz_V ∨ now b.toNatClampNeg = fz_V then fz_V else
  (fz_w op (now a.toNatClampNeg).toInt32 (now b.toNatClampNeg).toInt32).toInt64
theorem fz_c0 : (0 : Int64) = (0 : Int32).toInt64 := by decide
theorem fz_cV (c : Int32) : ¬ c.toInt64 = fz_V := by
  intro h
  have h1 := congrArg Int64.toInt h
  have h2 : fz_V.toInt = 10000000001 := by decide
  rw [Int32.toInt_toInt64, h2] at h1
  have h3 := c.toInt_lt
  omega
theorem fz_cN (c : Int32) : ¬ c.toInt64 = fz_N := by
  intro h
  have h1 := congrArg Int64.toInt h
  have h2 : fz_N.toInt = 10000000000 := by decide
  rw [Int32.toInt_toInt64, h2] at h1
  have h3 := c.toInt_lt
  omega
theorem fz_okN {x : Int64} (h : fz_ok x) : ¬ x = fz_N := by
  rcases h with h | ⟨c, h⟩
  · rw [h]; decide
  · rw [h]; exact fz_cN c
theorem fz_vok {op a b : Int32} {now : Nat → Int64} (h : ∀ v, fz_ok (now v)) : fz_ok (fz_v op a b now) := by
  unfold fz_v
  split
  · exact Or.inl rfl
  split
  · exact Or.inr ⟨a, rfl⟩
  split
  · exact h _
  split
  · exact Or.inr ⟨0, fz_c0⟩
  split
  · exact Or.inl rfl
  · exact Or.inr ⟨_, rfl⟩
theorem fz_vm {op a b : Int32} {now now' : Nat → Int64} (h : ∀ v, fz_le (now v) (now' v)) : fz_le (fz_v op a b now) (fz_v op a b now') := by
  have ha := h a.toNatClampNeg
  have hb := h b.toNatClampNeg
  unfold fz_v
  generalize now a.toNatClampNeg = x at ha ⊢
  generalize now' a.toNatClampNeg = x' at ha ⊢
  generalize now b.toNatClampNeg = y at hb ⊢
  generalize now' b.toNatClampNeg = y' at hb ⊢
  by_cases h7 : op = 7
  · rw [if_pos h7, if_pos h7]; exact fz_rf _
  rw [if_neg h7, if_neg h7]
  by_cases h0 : op = 0
  · rw [if_pos h0, if_pos h0]; exact fz_rf _
  rw [if_neg h0, if_neg h0]
  by_cases h1 : op = 1
  · rw [if_pos h1, if_pos h1]; exact ha
  rw [if_neg h1, if_neg h1]
  by_cases q' : op = 4 ∧ (x' = 0 ∨ y' = 0)
  · have q : op = 4 ∧ (x = 0 ∨ y = 0) := by
      refine ⟨q'.1, q'.2.imp (fun z => ?_) (fun z => ?_)⟩
      · rcases ha with e | e
        · exact e.trans z
        · exact absurd (e.symm.trans z) (by decide)
      · rcases hb with e | e
        · exact e.trans z
        · exact absurd (e.symm.trans z) (by decide)
    rw [if_pos q', if_pos q]; exact fz_rf _
  rw [if_neg q']
  by_cases p' : x' = fz_V ∨ y' = fz_V
  · rw [if_pos p']; exact Or.inr rfl
  rw [if_neg p']
  have ex : x = x' := ha.resolve_right (fun z => p' (Or.inl z))
  have ey : y = y' := hb.resolve_right (fun z => p' (Or.inr z))
  subst ex
  subst ey
  rw [if_neg q', if_neg p']
  exact fz_rf _
/-- through the first i instructions of the block whose first slot is q -/
def fz_th (op d a b : Nat → Int32) (q : Nat) (now : Nat → Int64) : Nat → Nat → Int64
  | 0 => now
  | i + 1 => vp_updL (fz_th op d a b q now i) (d (q + i)).toNatClampNeg (fz_v (op (q + i)) (a (q + i)) (b (q + i)) (fz_th op d a b q now i))
theorem fz_thok {op d a b : Nat → Int32} {q : Nat} {now : Nat → Int64} (h : ∀ v, fz_ok (now v)) : ∀ i v, fz_ok (fz_th op d a b q now i v)
  | 0, v => h v
  | i + 1, v => by
    have ih := fz_thok (op := op) (d := d) (a := a) (b := b) (q := q) h i
    show fz_ok (vp_updL _ _ _ v)
    unfold vp_updL
    split
    · exact fz_vok ih
    · exact ih v
theorem fz_thm {op d a b : Nat → Int32} {q : Nat} {now now' : Nat → Int64} (h : ∀ v, fz_le (now v) (now' v)) : ∀ i v, fz_le (fz_th op d a b q now i v) (fz_th op d a b q now' i v)
  | 0, v => h v
  | i + 1, v => by
    have ih := fz_thm (op := op) (d := d) (a := a) (b := b) (q := q) h i
    show fz_le (vp_updL _ _ _ v) (vp_updL _ _ _ v)
    unfold vp_updL
    split
    · exact fz_vm ih
    · exact ih v
/-- two values come together -/
def fz_j (x y : Int64) : Int64 := if x = fz_N ∨ x = y then y else fz_V
def fz_ht (x : Int64) : Nat := if x = fz_N then 0 else if x = fz_V then 2 else 1
theorem fz_jok {x y : Int64} (h : fz_ok y) : fz_ok (fz_j x y) := by
  unfold fz_j
  split
  · exact h
  · exact Or.inl rfl
theorem fz_jle {x y : Int64} (hx : ¬ x = fz_N) : fz_le x (fz_j x y) := by
  unfold fz_j
  split
  · next h => exact Or.inl (h.resolve_left hx)
  · exact Or.inr rfl
theorem fz_jht {x y : Int64} (h : fz_ok y) : fz_ht x ≤ fz_ht (fz_j x y) ∧ (¬ fz_j x y = x → fz_ht x < fz_ht (fz_j x y)) := by
  have hV : ¬ fz_V = fz_N := by decide
  have hy := fz_okN h
  unfold fz_j
  by_cases h1 : x = fz_N
  · rw [if_pos (Or.inl h1)]
    unfold fz_ht
    rw [if_pos h1, if_neg hy]
    exact ⟨Nat.zero_le _, fun _ => by split <;> omega⟩
  · by_cases h2 : x = y
    · rw [if_pos (Or.inr h2), ← h2]
      exact ⟨Nat.le_refl _, fun z => absurd rfl z⟩
    · rw [if_neg (by simp [h1, h2])]
      unfold fz_ht
      rw [if_neg h1, if_neg hV, if_pos rfl]
      by_cases h3 : x = fz_V
      · rw [if_pos h3]
        exact ⟨Nat.le_refl _, fun z => absurd h3.symm z⟩
      · rw [if_neg h3]
        exact ⟨by decide, fun _ => by decide⟩
-- The whole solution: p.1 are the values at the beginnings (variable v of block b at 6 * b + v), p.2 the OPEN blocks.
def fz_sm (f : Nat → Nat) : Nat → Nat
  | 0 => 0
  | m + 1 => fz_sm f m + f m
theorem fz_sm_b {f : Nat → Nat} {c : Nat} (h : ∀ j, f j ≤ c) : ∀ m, fz_sm f m ≤ c * m
  | 0 => by unfold fz_sm; omega
  | m + 1 => by
    have h1 := fz_sm_b h m
    have h2 := h m
    unfold fz_sm
    rw [Nat.mul_add_one]
    omega
theorem fz_sm_m {f g : Nat → Nat} : ∀ m, (∀ j, j < m → f j ≤ g j) → fz_sm f m ≤ fz_sm g m
  | 0, _ => Nat.le_refl _
  | m + 1, h => by
    have h1 := fz_sm_m m (fun j hj => h j (by omega))
    have h2 := h m (by omega)
    unfold fz_sm
    omega
theorem fz_sm_l {f g : Nat → Nat} {i : Nat} (e : f i < g i) : ∀ m, i < m → (∀ j, j < m → f j ≤ g j) → fz_sm f m < fz_sm g m
  | 0, hi, _ => absurd hi (Nat.not_lt_zero i)
  | m + 1, hi, h => by
    have h1 := fz_sm_m m (fun j hj => h j (by omega))
    have h2 := h m (by omega)
    unfold fz_sm
    by_cases z : i = m
    · subst z
      omega
    · have h3 := fz_sm_l e m (by omega) (fun j hj => h j (by omega))
      omega
def fz_on (x : Bool) : Nat := if x = true then 1 else 0
def fz_mu (p : (Nat → Int64) × (Nat → Bool)) : Nat := fz_sm (fun j => fz_ht (p.1 j)) 96 + fz_sm (fun i => fz_on (p.2 i)) 16
theorem fz_mub (p : (Nat → Int64) × (Nat → Bool)) : fz_mu p ≤ 208 := by
  have h1 := fz_sm_b (f := fun j => fz_ht (p.1 j)) (c := 2) (by intro j; unfold fz_ht; split; omega; split <;> omega) 96
  have h2 := fz_sm_b (f := fun i => fz_on (p.2 i)) (c := 1) (by intro j; unfold fz_on; split <;> omega) 16
  unfold fz_mu
  omega
/-- the values now spread to block t -/
def fz_sp (t : Nat) (nw : Nat → Int64) (p : (Nat → Int64) × (Nat → Bool)) : (Nat → Int64) × (Nat → Bool) :=
  (fun j => if 6 * t ≤ j ∧ j < 6 * t + 6 then fz_j (p.1 j) (nw (j - 6 * t)) else p.1 j, fun i => p.2 i || decide (i = t))
/-- blocks that aren't OPEN have nothing, OPEN ones have all -/
def fz_iv (n : Nat) (p : (Nat → Int64) × (Nat → Bool)) : Prop := ∀ b, (p.2 b = true → b < n ∧ ∀ v, v < 6 → fz_ok (p.1 (6 * b + v))) ∧ (p.2 b = false → ∀ v, v < 6 → p.1 (6 * b + v) = fz_N)
/-- p is carried on to q: what was OPEN is OPEN, and its values are the same or VARY -/
def fz_ge (p q : (Nat → Int64) × (Nat → Bool)) : Prop := ∀ b, p.2 b = true → q.2 b = true ∧ ∀ v, v < 6 → fz_le (p.1 (6 * b + v)) (q.1 (6 * b + v))
theorem fz_le_t {x y z : Int64} (h : fz_le x y) (h' : fz_le y z) : fz_le x z := by
  rcases h' with e | e
  · rw [← e]; exact h
  · exact Or.inr e
theorem fz_ge_r (p : (Nat → Int64) × (Nat → Bool)) : fz_ge p p := fun _ h => ⟨h, fun _ _ => fz_rf _⟩
theorem fz_ge_t {p q w : (Nat → Int64) × (Nat → Bool)} (h : fz_ge p q) (h' : fz_ge q w) : fz_ge p w :=
  fun b z => ⟨(h' b (h b z).1).1, fun v hv => fz_le_t ((h b z).2 v hv) ((h' b (h b z).1).2 v hv)⟩
theorem fz_sp1 {t : Nat} {nw : Nat → Int64} {p : (Nat → Int64) × (Nat → Bool)} {v : Nat} (hv : v < 6) : (fz_sp t nw p).1 (6 * t + v) = fz_j (p.1 (6 * t + v)) (nw v) := by
  unfold fz_sp
  dsimp only
  rw [if_pos (by omega), Nat.add_sub_cancel_left]
theorem fz_sp2 {t b : Nat} {nw : Nat → Int64} {p : (Nat → Int64) × (Nat → Bool)} {v : Nat} (hv : v < 6) (hb : ¬ b = t) : (fz_sp t nw p).1 (6 * b + v) = p.1 (6 * b + v) := by
  unfold fz_sp
  dsimp only
  rw [if_neg (by omega)]
theorem fz_sp3 {t i : Nat} {nw : Nat → Int64} {p : (Nat → Int64) × (Nat → Bool)} : (fz_sp t nw p).2 i = true ↔ (p.2 i = true ∨ i = t) := by
  unfold fz_sp
  dsimp only
  rw [Bool.or_eq_true, decide_eq_true_iff]
theorem fz_sp_iv {n t : Nat} {nw : Nat → Int64} {p : (Nat → Int64) × (Nat → Bool)} (ht : t < n) (hw : ∀ v, fz_ok (nw v)) (h : fz_iv n p) : fz_iv n (fz_sp t nw p) := by
  intro b
  constructor
  · intro hb
    by_cases e : b = t
    · subst e
      refine ⟨ht, fun v hv => ?_⟩
      rw [fz_sp1 hv]
      exact fz_jok (hw v)
    · have hb' := (fz_sp3.mp hb).resolve_right e
      refine ⟨((h b).1 hb').1, fun v hv => ?_⟩
      rw [fz_sp2 hv e]
      exact ((h b).1 hb').2 v hv
  · intro hb v hv
    have e : ¬ b = t := by
      intro e
      have := (fz_sp3 (t := t) (nw := nw) (p := p)).mpr (Or.inr e)
      rw [hb] at this
      exact Bool.false_ne_true this
    have hb' : p.2 b = false := by
      cases z : p.2 b
      · rfl
      · have := (fz_sp3 (t := t) (nw := nw) (p := p)).mpr (Or.inl z)
        rw [hb] at this
        exact absurd this Bool.false_ne_true
    rw [fz_sp2 hv e]
    exact (h b).2 hb' v hv
theorem fz_sp_ge {n t : Nat} {nw : Nat → Int64} {p : (Nat → Int64) × (Nat → Bool)} (h : fz_iv n p) : fz_ge p (fz_sp t nw p) := by
  intro b hb
  refine ⟨fz_sp3.mpr (Or.inl hb), fun v hv => ?_⟩
  by_cases e : b = t
  · subst e
    rw [fz_sp1 hv]
    exact fz_jle (fz_okN (((h b).1 hb).2 v hv))
  · rw [fz_sp2 hv e]
    exact fz_rf _
/-- nothing goes down; and where something is new, the measure goes up -/
theorem fz_sp_mu {t : Nat} {nw : Nat → Int64} {p : (Nat → Int64) × (Nat → Bool)} (ht : t < 16) (hw : ∀ v, fz_ok (nw v)) :
    fz_mu p ≤ fz_mu (fz_sp t nw p) ∧ ((p.2 t = false ∨ ∃ v, v < 6 ∧ ¬ fz_j (p.1 (6 * t + v)) (nw v) = p.1 (6 * t + v)) → fz_mu p < fz_mu (fz_sp t nw p)) := by
  have h1 : ∀ j, j < 96 → fz_ht (p.1 j) ≤ fz_ht ((fz_sp t nw p).1 j) := by
    intro j _
    unfold fz_sp
    dsimp only
    split
    · exact (fz_jht (hw _)).1
    · exact Nat.le_refl _
  have h2 : ∀ i, i < 16 → fz_on (p.2 i) ≤ fz_on ((fz_sp t nw p).2 i) := by
    intro i _
    unfold fz_sp fz_on
    dsimp only
    by_cases z : p.2 i = true
    · rw [if_pos z, if_pos (by rw [z]; rfl)]; exact Nat.le_refl _
    · rw [if_neg z]; exact Nat.zero_le _
  have h3 := fz_sm_m 96 h1
  have h4 := fz_sm_m 16 h2
  unfold fz_mu
  refine ⟨by omega, fun h => ?_⟩
  rcases h with h | ⟨v, hv, h⟩
  · have h5 := fz_sm_l (f := fun i => fz_on (p.2 i)) (g := fun i => fz_on ((fz_sp t nw p).2 i)) (i := t) (by
      rw [h, fz_sp3.mpr (Or.inr rfl)]
      decide) 16 ht h2
    omega
  · have h5 := fz_sm_l (f := fun j => fz_ht (p.1 j)) (g := fun j => fz_ht ((fz_sp t nw p).1 j)) (i := 6 * t + v) (by
      rw [fz_sp1 hv]
      exact (fz_jht (hw v)).2 h) 96 (by omega) h1
    omega
/-- nothing new: the same -/
theorem fz_sp_eq {t : Nat} {nw : Nat → Int64} {p : (Nat → Int64) × (Nat → Bool)} (h : p.2 t = true) (h' : ∀ v, v < 6 → fz_j (p.1 (6 * t + v)) (nw v) = p.1 (6 * t + v)) : fz_sp t nw p = p := by
  unfold fz_sp
  apply Prod.ext
  · funext j
    dsimp only
    split
    · next q =>
      have h2 := h' (j - 6 * t) (by omega)
      have e : 6 * t + (j - 6 * t) = j := by omega
      rw [e] at h2
      exact h2
    · rfl
  · funext i
    dsimp only
    by_cases e : i = t
    · rw [e, h]; rfl
    · rw [decide_eq_false e, Bool.or_false]
/-- the values at the beginning of block x, as a row of their own -/
def fz_bg (B : Nat → Int64) (x : Nat) (v : Nat) : Int64 := if v < 6 then B (6 * x + v) else fz_V
/-- the first edge is OPEN; the second -/
abbrev fz_lt (kd : Nat → Int32) (x : Nat) (t : Int64) : Prop := kd x = 1 ∨ (kd x = 2 ∧ ¬ t = 0)
abbrev fz_l2 (kd : Nat → Int32) (x : Nat) (t : Int64) : Prop := kd x = 2 ∧ (t = 0 ∨ t = fz_V)
theorem fz_ltm {kd : Nat → Int32} {x : Nat} {t t' : Int64} (h : fz_le t t') (z : fz_lt kd x t) : fz_lt kd x t' := by
  rcases z with z | z
  · exact Or.inl z
  · refine Or.inr ⟨z.1, ?_⟩
    rcases h with e | e
    · rw [← e]; exact z.2
    · rw [e]; decide
theorem fz_l2m {kd : Nat → Int32} {x : Nat} {t t' : Int64} (h : fz_le t t') (z : fz_l2 kd x t) : fz_l2 kd x t' := by
  refine ⟨z.1, ?_⟩
  rcases h with e | e
  · rw [← e]; exact z.2
  · exact Or.inr e
section
variable (sz kd ev th el op d a b : Nat → Int32)
/-- the values at the end of block x -/
def fz_en (B : Nat → Int64) (x : Nat) : Nat → Int64 := fz_th op d a b (4 * x) (fz_bg B x) (sz x).toNatClampNeg
def fz_s1 (x : Nat) (nw : Nat → Int64) (p : (Nat → Int64) × (Nat → Bool)) : (Nat → Int64) × (Nat → Bool) :=
  if fz_lt kd x (nw (ev x).toNatClampNeg) then fz_sp (th x).toNatClampNeg nw p else p
def fz_s2 (x : Nat) (nw : Nat → Int64) (p : (Nat → Int64) × (Nat → Bool)) : (Nat → Int64) × (Nat → Bool) :=
  if fz_l2 kd x (nw (ev x).toNatClampNeg) then fz_sp (el x).toNatClampNeg nw p else p
def fz_st (x : Nat) (p : (Nat → Int64) × (Nat → Bool)) : (Nat → Int64) × (Nat → Bool) :=
  if p.2 x = true then fz_s2 kd ev el x (fz_en sz op d a b p.1 x) (fz_s1 kd ev th x (fz_en sz op d a b p.1 x) p) else p
def fz_rd (p : (Nat → Int64) × (Nat → Bool)) : Nat → (Nat → Int64) × (Nat → Bool)
  | 0 => p
  | x + 1 => fz_st sz kd ev th el op d a b x (fz_rd p x)
def fz_it (n : Nat) (p : (Nat → Int64) × (Nat → Bool)) : Nat → (Nat → Int64) × (Nat → Bool)
  | 0 => p
  | r + 1 => fz_rd sz kd ev th el op d a b (fz_it n p r) n
/-- the solution: what the rounds come to -/
def fz_so (n : Nat) (p0 p : (Nat → Int64) × (Nat → Bool)) : Prop := (∃ r, p = fz_it sz kd ev th el op d a b n p0 r) ∧ fz_rd sz kd ev th el op d a b p n = p
end
section
variable {sz kd ev th el op d a b : Nat → Int32} {n : Nat} {p0 p q : (Nat → Int64) × (Nat → Bool)}
theorem fz_itf {r : Nat} (h : fz_rd sz kd ev th el op d a b (fz_it sz kd ev th el op d a b n p0 r) n = fz_it sz kd ev th el op d a b n p0 r) :
    ∀ k, fz_it sz kd ev th el op d a b n p0 (r + k) = fz_it sz kd ev th el op d a b n p0 r
  | 0 => rfl
  | k + 1 => by
    show fz_rd sz kd ev th el op d a b (fz_it sz kd ev th el op d a b n p0 (r + k)) n = _
    rw [fz_itf h k, h]
theorem fz_so_u (h : fz_so sz kd ev th el op d a b n p0 p) (h' : fz_so sz kd ev th el op d a b n p0 q) : q = p := by
  obtain ⟨⟨r, e⟩, f⟩ := h
  obtain ⟨⟨r', e'⟩, f'⟩ := h'
  subst e
  subst e'
  rcases Nat.le_total r r' with z | z
  · obtain ⟨k, hk⟩ := Nat.le.dest z
    rw [← hk]
    exact fz_itf f k
  · obtain ⟨k, hk⟩ := Nat.le.dest z
    rw [← hk]
    exact (fz_itf f' k).symm
theorem fz_bgok {x : Nat} {B : Nat → Int64} (h : ∀ v, v < 6 → fz_ok (B (6 * x + v))) : ∀ v, fz_ok (fz_bg B x v) := by
  intro v
  unfold fz_bg
  split
  · next hv => exact h v hv
  · exact Or.inl rfl
theorem fz_enok {x : Nat} (h : fz_iv n p) (hx : p.2 x = true) : ∀ v, fz_ok (fz_en sz op d a b p.1 x v) :=
  fz_thok (fz_bgok ((h x).1 hx).2) _
theorem fz_enm {x : Nat} (h : fz_ge p q) (hx : p.2 x = true) : ∀ v, fz_le (fz_en sz op d a b p.1 x v) (fz_en sz op d a b q.1 x v) := by
  refine fz_thm ?_ _
  intro v
  unfold fz_bg
  split
  · next hv => exact (h x hx).2 v hv
  · exact fz_rf _
/-- the program's targets -/
def fz_tg (n : Nat) (kd th el : Nat → Int32) : Prop := n ≤ 16 ∧ ∀ x, x < n → (¬ kd x = 0 → (th x).toNatClampNeg < n) ∧ (kd x = 2 → (el x).toNatClampNeg < n)
theorem fz_n12 : ¬ (1 : Int32) = 0 := by decide
theorem fz_n20 : ¬ (2 : Int32) = 0 := by decide
theorem fz_ltn {x : Nat} {t : Int64} (h : fz_lt kd x t) : ¬ kd x = 0 := by
  rcases h with h | h
  · rw [h]; decide
  · rw [h.1]; decide
theorem fz_s1a {x : Nat} {nw : Nat → Int64} (ht : fz_tg n kd th el) (hx : x < n) (hw : ∀ v, fz_ok (nw v)) (h : fz_iv n p) :
    fz_iv n (fz_s1 kd ev th x nw p) ∧ fz_ge p (fz_s1 kd ev th x nw p) ∧ fz_mu p ≤ fz_mu (fz_s1 kd ev th x nw p) := by
  unfold fz_s1
  split
  · next z =>
    have hl := (ht.2 x hx).1 (fz_ltn z)
    exact ⟨fz_sp_iv hl hw h, fz_sp_ge h, (fz_sp_mu (by have := ht.1; omega) hw).1⟩
  · exact ⟨h, fz_ge_r p, Nat.le_refl _⟩
theorem fz_s2a {x : Nat} {nw : Nat → Int64} (ht : fz_tg n kd th el) (hx : x < n) (hw : ∀ v, fz_ok (nw v)) (h : fz_iv n p) :
    fz_iv n (fz_s2 kd ev el x nw p) ∧ fz_ge p (fz_s2 kd ev el x nw p) ∧ fz_mu p ≤ fz_mu (fz_s2 kd ev el x nw p) := by
  unfold fz_s2
  split
  · next z =>
    have hl := (ht.2 x hx).2 z.1
    exact ⟨fz_sp_iv hl hw h, fz_sp_ge h, (fz_sp_mu (by have := ht.1; omega) hw).1⟩
  · exact ⟨h, fz_ge_r p, Nat.le_refl _⟩
theorem fz_sta {x : Nat} (ht : fz_tg n kd th el) (hx : x < n) (h : fz_iv n p) :
    fz_iv n (fz_st sz kd ev th el op d a b x p) ∧ fz_ge p (fz_st sz kd ev th el op d a b x p) ∧ fz_mu p ≤ fz_mu (fz_st sz kd ev th el op d a b x p) := by
  unfold fz_st
  split
  · next z =>
    have h1 := fz_s1a (ev := ev) ht hx (fz_enok (sz := sz) (op := op) (d := d) (a := a) (b := b) h z) h
    have h2 := fz_s2a (ev := ev) ht hx (fz_enok (sz := sz) (op := op) (d := d) (a := a) (b := b) h z) h1.1
    exact ⟨h2.1, fz_ge_t h1.2.1 h2.2.1, Nat.le_trans h1.2.2 h2.2.2⟩
  · exact ⟨h, fz_ge_r p, Nat.le_refl _⟩
theorem fz_rda (ht : fz_tg n kd th el) (h : fz_iv n p) : ∀ x, x ≤ n →
    fz_iv n (fz_rd sz kd ev th el op d a b p x) ∧ fz_ge p (fz_rd sz kd ev th el op d a b p x) ∧ fz_mu p ≤ fz_mu (fz_rd sz kd ev th el op d a b p x)
  | 0, _ => ⟨h, fz_ge_r p, Nat.le_refl _⟩
  | x + 1, hx => by
    have h1 := fz_rda ht h x (by omega)
    have h2 := fz_sta (sz := sz) (ev := ev) (op := op) (d := d) (a := a) (b := b) (x := x) ht (by omega) h1.1
    exact ⟨h2.1, fz_ge_t h1.2.1 h2.2.1, Nat.le_trans h1.2.2 h2.2.2⟩
/-- where block 0 alone is OPEN -/
def fz_p0 (n k : Nat) : (Nat → Int64) × (Nat → Bool) := (fun j => if j < 6 ∧ 0 < n then (if j < k then fz_V else 0) else fz_N, fun i => decide (i = 0 ∧ 0 < n))
theorem fz_p0iv (n k : Nat) : fz_iv n (fz_p0 n k) := by
  intro x
  unfold fz_p0
  dsimp only
  constructor
  · intro hx
    have hx := of_decide_eq_true hx
    refine ⟨by omega, fun v hv => ?_⟩
    rw [if_pos (by omega)]
    split
    · exact Or.inl rfl
    · exact Or.inr ⟨0, fz_c0⟩
  · intro hx v hv
    have hx := of_decide_eq_false hx
    rw [if_neg (by omega)]
end
theorem fz_smA (f g : Nat → Nat) : ∀ m, fz_sm (fun j => f j + g j) m = fz_sm f m + fz_sm g m
  | 0 => rfl
  | m + 1 => by
    have h := fz_smA f g m
    show fz_sm (fun j => f j + g j) m + (f m + g m) = (fz_sm f m + f m) + (fz_sm g m + g m)
    omega
theorem fz_smC (p : Nat → Bool) : ∀ m, fa_cn p m = fz_sm (fun i => fz_on (p i)) m
  | 0 => rfl
  | m + 1 => by
    show fa_cn p m + _ = fz_sm (fun i => fz_on (p i)) m + fz_on (p m)
    rw [fz_smC p m]
    rfl
theorem fz_smE {f g : Nat → Nat} : ∀ m, (∀ j, j < m → f j = g j) → fz_sm f m = fz_sm g m
  | 0, _ => rfl
  | m + 1, h => by
    show fz_sm f m + f m = fz_sm g m + g m
    rw [fz_smE m (fun j hj => h j (by omega)), h m (by omega)]
