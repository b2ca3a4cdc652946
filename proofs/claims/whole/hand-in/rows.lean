section
def bt (x : Int32) (i : Nat) : Bool := x.toBitVec.getLsbD i
theorem b_ext {x y : Int32} (h : ∀ i, i < 32 → bt x i = bt y i) : x = y := Int32.toBitVec_inj.mp (BitVec.eq_of_getLsbD_eq (fun i hi => h i hi))
theorem b_or (x y : Int32) (i : Nat) : bt (x ||| y) i = (bt x i || bt y i) := by unfold bt; rw [Int32.toBitVec_or, BitVec.getLsbD_or]
theorem b_and (x y : Int32) (i : Nat) : bt (x &&& y) i = (bt x i && bt y i) := by unfold bt; rw [Int32.toBitVec_and, BitVec.getLsbD_and]
theorem b_xor (x y : Int32) (i : Nat) : bt (x ^^^ y) i = (bt x i ^^ bt y i) := by unfold bt; rw [Int32.toBitVec_xor, BitVec.getLsbD_xor]
theorem b_big {x : Int32} {i : Nat} (h : 32 ≤ i) : bt x i = false := BitVec.getLsbD_of_ge _ _ h
theorem b_255 (i : Nat) : bt 255 i = decide (i < 8) := by
  rcases Nat.lt_or_ge i 32 with h | h
  · exact (by decide +kernel : ∀ i, i < 32 → bt 255 i = decide (i < 8)) i h
  · rw [b_big h, decide_eq_false (by omega)]
theorem b_65535 (i : Nat) : bt 65535 i = decide (i < 16) := by
  rcases Nat.lt_or_ge i 32 with h | h
  · exact (by decide +kernel : ∀ i, i < 32 → bt 65535 i = decide (i < 16)) i h
  · rw [b_big h, decide_eq_false (by omega)]
theorem b_m1 : ∀ i, i < 32 → bt (-1) i = true := by decide +kernel
theorem b_0 (i : Nat) : bt 0 i = false := BitVec.getLsbD_zero
theorem s_l : ∀ n, n < 32 → ((nI n &&& 31).toBitVec.smod 32).toNat = n := by decide +kernel
theorem s_u : ∀ n, n < 32 → (((nI n).toUInt32 &&& Int32.toUInt32 31).toBitVec % 32).toNat = n := by decide +kernel
theorem b_shl (n : Nat) (hn : n < 32) (x : Int32) {i : Nat} (hi : i < 32) : bt (x <<< (nI n &&& 31)) i = (decide (n ≤ i) && bt x (i - n)) := by
  unfold bt
  rw [Int32.toBitVec_shiftLeft]
  show (x.toBitVec <<< ((nI n &&& 31).toBitVec.smod 32).toNat).getLsbD i = _
  rw [s_l n hn, BitVec.getLsbD_shiftLeft]
  rcases Nat.lt_or_ge i n with h | h
  · simp [h, Nat.not_le.mpr h]
  · simp [hi, h, Nat.not_lt.mpr h]
theorem b_ushr (n : Nat) (hn : n < 32) (x : Int32) (i : Nat) : bt ((x.toUInt32 >>> ((nI n).toUInt32 &&& Int32.toUInt32 31)).toInt32) i = bt x (n + i) := by
  show (x.toUInt32 >>> ((nI n).toUInt32 &&& Int32.toUInt32 31)).toBitVec.getLsbD i = x.toUInt32.toBitVec.getLsbD (n + i)
  rw [UInt32.toBitVec_shiftRight]
  show (x.toUInt32.toBitVec >>> (((nI n).toUInt32 &&& Int32.toUInt32 31).toBitVec % 32).toNat).getLsbD i = _
  rw [s_u n hn, BitVec.getLsbD_ushiftRight]
theorem b_sshr (n : Nat) (hn : n < 32) (x : Int32) {i : Nat} (hi : i < 32) : bt (x >>> (nI n &&& 31)) i = if n + i < 32 then bt x (n + i) else bt x 31 := by
  unfold bt
  rw [Int32.toBitVec_shiftRight]
  show (x.toBitVec.sshiftRight ((nI n &&& 31).toBitVec.smod 32).toNat).getLsbD i = _
  rw [s_l n hn, BitVec.getLsbD_sshiftRight, BitVec.msb_eq_getLsbD_last]
  simp [hi]
theorem b_shl8 (x : Int32) {i : Nat} (hi : i < 32) : bt (x <<< ((8 : Int32) &&& 31)) i = (decide (8 ≤ i) && bt x (i - 8)) := b_shl 8 (by omega) x hi
theorem b_shl16 (x : Int32) {i : Nat} (hi : i < 32) : bt (x <<< ((16 : Int32) &&& 31)) i = (decide (16 ≤ i) && bt x (i - 16)) := b_shl 16 (by omega) x hi
theorem b_shl24 (x : Int32) {i : Nat} (hi : i < 32) : bt (x <<< ((24 : Int32) &&& 31)) i = (decide (24 ≤ i) && bt x (i - 24)) := b_shl 24 (by omega) x hi
theorem b_sshr8 (x : Int32) {i : Nat} (hi : i < 32) : bt (x >>> ((8 : Int32) &&& 31)) i = if 8 + i < 32 then bt x (8 + i) else bt x 31 := b_sshr 8 (by omega) x hi
theorem pk_us {f : Nat → Int32} {k : Nat} {x : Int32} : upd f k x k = x := if_pos rfl
theorem pk_un {f : Nat → Int32} {k j : Nat} {x : Int32} (h : j ≠ k) : upd f k x j = f j := if_neg h
theorem pk_uLs {f : Nat → Int64} {k : Nat} {x : Int64} : vp_updL f k x k = x := if_pos rfl
theorem pk_uLn {f : Nat → Int64} {k j : Nat} {x : Int64} (h : j ≠ k) : vp_updL f k x j = f j := if_neg h
theorem pk_sub {a b : Nat} (h : b ≤ a) : nI a - nI b = nI (a - b) := by
  obtain ⟨c, rfl⟩ : ∃ c, a = c + b := ⟨a - b, by omega⟩
  rw [← nI_add, Int32.add_sub_cancel, Nat.add_sub_cancel]
theorem pk_m1 (n : Nat) : nI (n + 1) + (-1) = nI n := by
  rw [← nI_1, Int32.add_assoc, show (1 : Int32) + (-1) = 0 from rfl, Int32.add_zero]
theorem pk_mul (a b : Nat) : nI a * nI b = nI (a * b) := (Int32.ofNat_mul a b).symm
theorem pk_ix (x : Int32) {n : Nat} (hn : n < 2 ^ 31) : x < 0 ∨ nI n ≤ x ∨ ∃ j : Nat, j < n ∧ x = nI j := by
  by_cases h : x < 0
  · exact Or.inl h
  · obtain ⟨j, hj, rfl⟩ := nI_of h
    by_cases h2 : j < n
    · exact Or.inr (Or.inr ⟨j, h2, rfl⟩)
    · exact Or.inr (Or.inl (nI_le (by omega) hj))
theorem pk_le {x y : Int32} {A B : Prop} (a b : Nat) (f : a ≤ b → A) (g : b < a → B) (hx : x = nI a := by rfl) (hy : y = nI b := by rfl) (ha : a < 2 ^ 31 := by omega) (hb : b < 2 ^ 31 := by omega) : (x ≤ y → A) ∧ (¬ x ≤ y → B) := by
  subst hx hy
  rw [nI_leI ha hb]
  exact ⟨f, fun z => g (by omega)⟩
theorem pk_lt {x y : Int32} {A B : Prop} (a b : Nat) (f : a < b → A) (g : b ≤ a → B) (hx : x = nI a := by rfl) (hy : y = nI b := by rfl) (ha : a < 2 ^ 31 := by omega) (hb : b < 2 ^ 31 := by omega) : (x < y → A) ∧ (¬ x < y → B) := by
  subst hx hy
  rw [nI_ltI ha hb]
  exact ⟨f, fun z => g (by omega)⟩
theorem pk_eq {x y : Int32} {A B : Prop} (a b : Nat) (f : a = b → A) (g : a ≠ b → B) (hx : x = nI a := by rfl) (hy : y = nI b := by rfl) (ha : a < 2 ^ 31 := by omega) (hb : b < 2 ^ 31 := by omega) : (x = y → A) ∧ (¬ x = y → B) := by
  subst hx hy
  rw [nI_eq ha hb]
  exact ⟨f, g⟩
theorem pk_in {x : Int32} (n N : Nat) (h : n < N) (hx : x = nI n := by rfl) (hN : N < 2 ^ 31 := by omega) : vp_in x N := by
  subst hx
  exact vp_in_nI h hN
theorem pk_cl {x : Int32} (n : Nat) (hx : x = nI n := by rfl) (h : n < 2 ^ 31 := by omega) : x.toNatClampNeg = n := by
  subst hx
  exact nI_clamp h
theorem pk_tn {n : Nat} (h : n < 2 ^ 32) : (nI n).toBitVec.toNat = n := Nat.mod_eq_of_lt h
end
section
theorem fa_1 : ∀ i, i < 32 → bt 1 i = decide (i = 0) := by decide +kernel
theorem fa_and1 (x : Int32) : (x &&& 1) = 0 ↔ bt x 0 = false := by
  constructor
  · intro h
    have e : bt (x &&& 1) 0 = bt (0 : Int32) 0 := by rw [h]
    rw [b_and, fa_1 0 (by omega), b_0] at e
    simpa using e
  · intro h
    apply b_ext
    intro i hi
    rw [b_and, fa_1 i hi, b_0]
    by_cases z : i = 0
    · subst z; rw [h]; rfl
    · simp [z]
/-- the test of a bit, as both classes write it -/
theorem fa_t (s : Int32) {i : Nat} (hi : i < 32) : ((s >>> (nI i &&& 31)) &&& 1) = 0 ↔ bt s i = false := by
  rw [fa_and1, b_sshr i hi s (by omega : 0 < 32), Nat.add_zero, if_pos hi]
theorem fa_sg {j : Nat} (hj : j < 32) (i : Nat) : bt ((1 : Int32) <<< (nI j &&& 31)) i = decide (i = j) := by
  by_cases hi : i < 32
  · rw [b_shl j hj 1 hi]
    by_cases e : j ≤ i
    · rw [fa_1 (i - j) (by omega), decide_eq_true e, Bool.true_and]
      exact decide_eq_decide.mpr (by omega)
    · rw [decide_eq_false e, Bool.false_and, decide_eq_false (by omega)]
  · rw [b_big (by omega), decide_eq_false (by omega)]
theorem fa_not (x : Int32) {i : Nat} (hi : i < 32) : bt (x ^^^ (-1)) i = !(bt x i) := by
  rw [b_xor, b_m1 i hi]
  cases bt x i <;> rfl
theorem fa_dif (x y : Int32) (i : Nat) : bt (x &&& (y ^^^ (-1))) i = (bt x i && !(bt y i)) := by
  by_cases hi : i < 32
  · rw [b_and, fa_not y hi]
  · rw [b_big (by omega), b_big (by omega), Bool.false_and]
/-- one set is within another -/
def fa_sb (s t : Int32) : Prop := ∀ i, bt s i = true → bt t i = true
theorem fa_sb_r (s : Int32) : fa_sb s s := fun _ h => h
theorem fa_sb_t {s t w : Int32} (h : fa_sb s t) (h' : fa_sb t w) : fa_sb s w := fun i z => h' i (h i z)
theorem fa_sb_a {s t : Int32} (h : fa_sb s t) (h' : fa_sb t s) : s = t := b_ext (fun i _ => Bool.eq_iff_iff.mpr ⟨h i, h' i⟩)
theorem fa_ext {s t : Int32} (h : ∀ i, bt s i = true ↔ bt t i = true) : s = t := b_ext (fun i _ => Bool.eq_iff_iff.mpr (h i))
/-- all members are below m -/
def fa_wi (m : Nat) (s : Int32) : Prop := ∀ i, bt s i = true → i < m
def fa_cn (p : Nat → Bool) : Nat → Nat
  | 0 => 0
  | m + 1 => fa_cn p m + (if p m = true then 1 else 0)
theorem fa_cn_le (p : Nat → Bool) : ∀ m, fa_cn p m ≤ m
  | 0 => Nat.le_refl 0
  | m + 1 => by
    have := fa_cn_le p m
    unfold fa_cn
    split <;> omega
theorem fa_cn_mo {p q : Nat → Bool} (h : ∀ i, p i = true → q i = true) : ∀ m, fa_cn p m ≤ fa_cn q m
  | 0 => Nat.le_refl 0
  | m + 1 => by
    have := fa_cn_mo h m
    have hm := h m
    unfold fa_cn
    by_cases z : p m = true
    · rw [if_pos z, if_pos (hm z)]; omega
    · rw [if_neg z]; omega
theorem fa_cn_lt {p q : Nat → Bool} (h : ∀ i, p i = true → q i = true) {i : Nat} (hp : p i = false) (hq : q i = true) : ∀ m, i < m → fa_cn p m < fa_cn q m
  | 0, hi => absurd hi (Nat.not_lt_zero i)
  | m + 1, hi => by
    have hm := h m
    have h1 := fa_cn_mo h m
    unfold fa_cn
    by_cases e : i = m
    · subst e
      rw [if_pos hq, if_neg (by rw [hp]; exact Bool.false_ne_true)]; omega
    · have h2 := fa_cn_lt h hp hq m (by omega)
      by_cases z : p m = true
      · rw [if_pos z, if_pos (hm z)]; omega
      · rw [if_neg z]; omega
theorem fa_cn_all {p : Nat → Bool} : ∀ m, m ≤ fa_cn p m → ∀ i, i < m → p i = true
  | 0, _, i, hi => absurd hi (Nat.not_lt_zero i)
  | m + 1, h, i, hi => by
    have h1 := fa_cn_le p m
    unfold fa_cn at h
    by_cases z : p m = true
    · rw [if_pos z] at h
      by_cases e : i = m
      · rw [e]; exact z
      · exact fa_cn_all m (by omega) i (by omega)
    · rw [if_neg z] at h; omega
/-- two sets that differ, one within the other: a member tells them apart -/
theorem fa_df {s t : Int32} (h : fa_sb s t) (e : ¬ t = s) : ∃ i, bt s i = false ∧ bt t i = true := by
  apply Classical.byContradiction
  intro z
  apply e
  refine fa_sb_a (fun i hi => ?_) h
  cases hs : bt s i
  · exact absurd ⟨i, hs, hi⟩ z
  · rfl
/-- a row of sets that grow by one rule: unchanged, or one larger at each turn -/
theorem fa_it {F : Int32 → Int32} {m k : Nat} {s : Int32} (hm : fa_sb s (F s) → fa_sb (F s) (F (F s))) (hw : fa_wi m (F s))
    (h2 : fa_sb s (F s)) (h3 : F s = s ∨ k ≤ fa_cn (bt s) m) : fa_sb (F s) (F (F s)) ∧ (F (F s) = F s ∨ k + 1 ≤ fa_cn (bt (F s)) m) := by
  refine ⟨hm h2, ?_⟩
  by_cases e : F s = s
  · exact Or.inl (by rw [e, e])
  · obtain ⟨i, hi, hj⟩ := fa_df h2 e
    have h4 := fa_cn_lt h2 hi hj m (hw i hj)
    rcases h3 with h3 | h3
    · exact absurd h3 e
    · exact Or.inr (by omega)
theorem fa_fin {F : Int32 → Int32} {m : Nat} {s : Int32} (hw : fa_wi m (F s)) (h2 : fa_sb s (F s)) (h3 : F s = s ∨ m ≤ fa_cn (bt s) m) : F s = s := by
  rcases h3 with h3 | h3
  · exact h3
  · exact fa_sb_a (fun i hi => fa_cn_all m h3 i (hw i hi)) h2
/-- numbers of sets: a set that grows, grows as a number -/
def fa_nu (s : Int32) : Nat := s.toBitVec.toNat
theorem fa_nu_lt {s t : Int32} (h : fa_sb s t) (e : ¬ t = s) : fa_cn (bt s) 32 < fa_cn (bt t) 32 := by
  obtain ⟨i, hi, hj⟩ := fa_df h e
  refine fa_cn_lt h hi hj 32 ?_
  apply Classical.byContradiction
  intro z
  rw [b_big (by omega)] at hj
  exact Bool.false_ne_true hj
end
section
/-- the least set that has st (but for av) and, with a block, what its edges lead to (but for av) -/
def fr_R (E : Nat → Nat → Prop) (st av : Nat → Prop) (i : Nat) : Prop :=
  ∀ S : Nat → Prop, (∀ x, st x → ¬ av x → S x) → (∀ x z, S x → E x z → ¬ av z → S z) → S i
/-- s is closed under E, but for av -/
def fr_cl (E : Nat → Nat → Prop) (av : Nat → Prop) (s : Int32) : Prop := ∀ x z, bt s x = true → E x z → ¬ av z → bt s z = true
/-- one round: what s leads to comes in -/
def fr_rd (E : Nat → Nat → Prop) (av : Nat → Prop) (s s' : Int32) : Prop := ∀ i, bt s' i = true ↔ (bt s i = true ∨ ((∃ x, bt s x = true ∧ E x i) ∧ ¬ av i))
def fr_so (E : Nat → Nat → Prop) (st av : Nat → Prop) (s : Int32) : Prop := ∀ i, bt s i = true → fr_R E st av i
def fr_sr (st av : Nat → Prop) (s : Int32) : Prop := ∀ x, st x → ¬ av x → bt s x = true
section
variable {E : Nat → Nat → Prop} {st av : Nat → Prop}
theorem fr_b {x : Nat} (h : st x) (h' : ¬ av x) : fr_R E st av x := fun _ a _ => a x h h'
theorem fr_s {x z : Nat} (h : fr_R E st av x) (e : E x z) (n : ¬ av z) : fr_R E st av z := fun S a b => b x z (h S a b) e n
theorem fr_i {P : Nat → Prop} (h0 : ∀ x, st x → ¬ av x → P x) (hs : ∀ x z, fr_R E st av x → P x → E x z → ¬ av z → P z) {i : Nat} (h : fr_R E st av i) : P i :=
  (h (fun x => fr_R E st av x ∧ P x) (fun x a b => ⟨fr_b a b, h0 x a b⟩) (fun x z a e n => ⟨fr_s a.1 e n, hs x z a.1 a.2 e n⟩)).2
theorem fr_na {i : Nat} (h : fr_R E st av i) : ¬ av i := fr_i (P := fun i => ¬ av i) (fun _ _ n => n) (fun _ _ _ _ _ n => n) h
theorem fr_lt {m : Nat} (h0 : ∀ x, st x → x < m) (hE : ∀ x z, E x z → z < m) {i : Nat} (h : fr_R E st av i) : i < m :=
  fr_i (P := fun i => i < m) (fun x a _ => h0 x a) (fun x z _ _ e _ => hE x z e) h
theorem fr_rdc {s s' : Int32} (h : fr_rd E av s s') (hc : fr_cl E av s) : s' = s := by
  apply fa_ext
  intro i
  constructor
  · intro z
    rcases (h i).mp z with y | ⟨⟨x, hx, e⟩, n⟩
    · exact y
    · exact hc x i hx e n
  · intro z
    exact (h i).mpr (Or.inl z)
theorem fr_rdn {s : Int32} (hc : ¬ fr_cl E av s) : ∃ x z, bt s x = true ∧ E x z ∧ ¬ av z ∧ bt s z = false := by
  apply Classical.byContradiction
  intro q
  apply hc
  intro x z hx e n
  cases hz : bt s z
  · exact absurd ⟨x, z, hx, e, n, hz⟩ q
  · rfl
theorem fr_rdk (hE : ∀ x z, E x z → z < 16) {s s' : Int32} (h : fr_rd E av s s') {k : Nat} (hk : fr_cl E av s ∨ k ≤ fa_cn (bt s) 16) :
    fr_cl E av s' ∨ k + 1 ≤ fa_cn (bt s') 16 := by
  by_cases hc : fr_cl E av s
  · left
    rw [fr_rdc h hc]
    exact hc
  · right
    obtain ⟨x, z, hx, e, n, hz⟩ := fr_rdn hc
    have h1 := fa_cn_lt (p := bt s) (q := bt s') (fun i hi => (h i).mpr (Or.inl hi)) hz ((h z).mpr (Or.inr ⟨⟨x, hx, e⟩, n⟩)) 16 (hE x z e)
    have h2 := hk.resolve_left hc
    omega
theorem fr_end (hE : ∀ x z, E x z → z < 16) {s : Int32} (hk : fr_cl E av s ∨ 16 ≤ fa_cn (bt s) 16) : fr_cl E av s :=
  hk.elim id (fun h _ z _ e _ => fa_cn_all 16 h z (hE _ z e))
theorem fr_so1 {s s' : Int32} (h : fr_rd E av s s') (hs : fr_so E st av s) : fr_so E st av s' := by
  intro i hi
  rcases (h i).mp hi with y | ⟨⟨x, hx, e⟩, n⟩
  · exact hs i y
  · exact fr_s (hs x hx) e n
theorem fr_sr1 {s s' : Int32} (h : fr_rd E av s s') (hs : fr_sr st av s) : fr_sr st av s' := fun x a n => (h x).mpr (Or.inl (hs x a n))
/-- a set with its start, closed, and within the least one, is the reach -/
theorem fr_fi {s : Int32} (hs : fr_so E st av s) (h0 : fr_sr st av s) (hc : fr_cl E av s) (i : Nat) : bt s i = true ↔ fr_R E st av i :=
  ⟨hs i, fun h => h (fun i => bt s i = true) h0 hc⟩
end
section
variable (E : Nat → Nat → Prop) (st : Nat → Prop)
def fd_M (i : Nat) : Prop := fr_R E st (fun _ => False) i
def fd_W (a i : Nat) : Prop := fr_R E st (fun x => x = a) i
def fd_D (a b : Nat) : Prop := fd_M E st a ∧ fd_M E st b ∧ ¬ fd_W E st a b
/-- the frontier -/
def fd_F (a i : Nat) : Prop := (∃ x, fd_D E st a x ∧ E x i) ∧ ¬ (¬ i = a ∧ fd_D E st a i)
end
section
variable {E : Nat → Nat → Prop} {st : Nat → Prop}
theorem fd_WM {a i : Nat} (h : fd_W E st a i) : fd_M E st i :=
  h (fd_M E st) (fun _ z _ => fr_b z (fun f => f)) (fun _ _ s e _ => fr_s s e (fun f => f))
theorem fd_Ms {x z : Nat} (h : fd_M E st x) (e : E x z) : fd_M E st z := fr_s h e (fun f => f)
theorem fd_Wa {a : Nat} : ¬ fd_W E st a a := fun h => fr_na h rfl
theorem fd_rf {a : Nat} (h : fd_M E st a) : fd_D E st a a := ⟨h, h, fd_Wa⟩
/-- if b isn't come to without a, then what is come to without a is come to without b -/
theorem fd_sub {a b : Nat} (h : ¬ fd_W E st a b) {i : Nat} (hi : fd_W E st a i) : fd_W E st b i := by
  refine fr_i (P := fun i => fd_W E st b i) ?_ ?_ hi
  · intro x hx ha
    have h1 : fd_W E st a x := fr_b hx ha
    refine fr_b hx ?_
    intro e
    exact h (e ▸ h1)
  · intro x z h1 h2 e ha
    have h3 : fd_W E st a z := fr_s h1 e ha
    refine fr_s h2 e ?_
    intro e2
    exact h (e2 ▸ h3)
theorem fd_tr {a b c : Nat} (h : fd_D E st a b) (h' : fd_D E st b c) : fd_D E st a c :=
  ⟨h.1, h'.2.1, fun z => h'.2.2 (fd_sub h.2.2 z)⟩
theorem fd_as {a b : Nat} (h : fd_D E st a b) (h' : fd_D E st b a) : a = b := by
  apply Classical.byContradiction
  intro ne
  have h1 : fd_W E st a a := by
    refine h.1 (fd_W E st a) ?_ ?_
    · intro x hx _
      refine fr_b hx ?_
      intro e
      have hb : fd_W E st b x := fr_b hx (fun z => ne (e.symm.trans z))
      exact h'.2.2 (e ▸ hb)
    · intro x z hx e _
      refine fr_s hx e ?_
      intro e2
      have hb : fd_W E st b z := fr_s (fd_sub h.2.2 hx) e (fun y => ne (e2.symm.trans y))
      exact h'.2.2 (e2 ▸ hb)
  exact fd_Wa h1
/-- the blocks that dominate b stand in a row -/
theorem fd_li {a c b : Nat} (h : fd_D E st a b) (h' : fd_D E st c b) : fd_D E st a c ∨ fd_D E st c a := by
  apply Classical.byContradiction
  intro ne
  have ha : fd_W E st a c := Classical.byContradiction fun z => ne (Or.inl ⟨h.1, h'.1, z⟩)
  have hc : fd_W E st c a := Classical.byContradiction fun z => ne (Or.inr ⟨h'.1, h.1, z⟩)
  have hb : fd_W E st a b ∨ fd_W E st c b := by
    refine h.2.1 (fun i => fd_W E st a i ∨ fd_W E st c i) ?_ ?_
    · intro x hx _
      by_cases e : x = a
      · exact Or.inr (e ▸ hc)
      · exact Or.inl (fr_b hx e)
    · intro x z hx e _
      rcases hx with hx | hx
      · by_cases e2 : z = a
        · exact Or.inr (e2 ▸ hc)
        · exact Or.inl (fr_s hx e e2)
      · by_cases e2 : z = c
        · exact Or.inl (e2 ▸ ha)
        · exact Or.inr (fr_s hx e e2)
  rcases hb with hb | hb
  · exact h.2.2 hb
  · exact h'.2.2 hb
/-- the nearest block that dominates b, or -1 -/
def fd_P (E : Nat → Nat → Prop) (st : Nat → Prop) (b : Nat) (r : Int32) : Prop :=
  (r = -1 ∧ ∀ a, ¬ a = b → ¬ fd_D E st a b) ∨ (∃ c, r = nI c ∧ ¬ c = b ∧ fd_D E st c b ∧ ∀ a, ¬ a = b → fd_D E st a b → fd_D E st a c)
theorem fd_Pu {b : Nat} {r r' : Int32} (h : fd_P E st b r) (h' : fd_P E st b r') : r' = r := by
  rcases h with ⟨e, h⟩ | ⟨c, e, n, d, h⟩
  · rcases h' with ⟨e', _⟩ | ⟨c', _, n', d', _⟩
    · rw [e, e']
    · exact absurd d' (h c' n')
  · rcases h' with ⟨_, h'⟩ | ⟨c', e', n', d', h'⟩
    · exact absurd d (h' c n)
    · rw [e, e', fd_as (h c' n' d') (h' c n d)]
end
section
variable {E : Nat → Nat → Prop} {T P : Nat → Prop} {h : Nat}
/-- forwards from b without the head into T, or backwards from T to b: the same (b MET and not the head) -/
theorem fr_fb (hP : ∀ x z, P x → E x z → P z) {b : Nat} (hb : P b) (hn : ¬ b = h) :
    fr_R (fun z x => E x z ∧ P x) T (fun x => x = h) b ↔ ∃ t, T t ∧ fr_R E (fun x => x = b) (fun x => x = h) t := by
  constructor
  · intro H
    have H2 : ¬ b = h ∧ ∃ t, T t ∧ fr_R E (fun x => x = b) (fun x => x = h) t := by
      refine H (fun b => ¬ b = h ∧ ∃ t, T t ∧ fr_R E (fun x => x = b) (fun x => x = h) t) ?_ ?_
      · intro x hx nx
        exact ⟨nx, x, hx, fr_b rfl nx⟩
      · intro z x hz ep nx
        obtain ⟨nz, t, ht, hr⟩ := hz
        refine ⟨nx, t, ht, ?_⟩
        refine hr (fun i => fr_R E (fun y => y = x) (fun y => y = h) i) ?_ ?_
        · intro y hy hny
          have hx0 : fr_R E (fun y => y = x) (fun y => y = h) x := fr_b rfl nx
          exact fr_s hx0 (hy ▸ ep.1) hny
        · intro y w hy ew hw
          exact fr_s hy ew hw
    exact H2.2
  · intro ⟨t, ht, hr⟩
    apply Classical.byContradiction
    intro nb
    have H : P t ∧ ¬ fr_R (fun z x => E x z ∧ P x) T (fun x => x = h) t := by
      refine fr_i (P := fun i => P i ∧ ¬ fr_R (fun z x => E x z ∧ P x) T (fun x => x = h) i) ?_ ?_ hr
      · intro x hx _
        rw [hx]
        exact ⟨hb, nb⟩
      · intro x z hx hp e _
        have nx : ¬ x = h := fr_na (av := fun x => x = h) hx
        exact ⟨hP x z hp.1 e, fun hz => hp.2 (fr_s hz ⟨e, hp.1⟩ nx)⟩
    have nt : ¬ t = h := fr_na (av := fun x => x = h) hr
    exact H.2 (fr_b ht nt)
end
-- A row of sets that are worked out anew from the last one: s' = start and what s leads to.
def fg_rs (E : Nat → Nat → Prop) (st : Nat → Prop) (s s' : Int32) : Prop := ∀ i, bt s' i = true ↔ (st i ∨ ∃ x, bt s x = true ∧ E x i)
def fg_in (E : Nat → Nat → Prop) (st : Nat → Prop) (k : Nat) (s : Int32) : Prop :=
  fr_so E st (fun _ => False) s ∧ (∀ i, bt s i = true → (st i ∨ ∃ x, bt s x = true ∧ E x i)) ∧ ((fr_sr st (fun _ => False) s ∧ fr_cl E (fun _ => False) s) ∨ k ≤ fa_cn (bt s) 16)
section
variable {E : Nat → Nat → Prop} {st : Nat → Prop}
theorem fg_0 : fg_in E st 0 0 := by
  refine ⟨fun i hi => ?_, fun i hi => ?_, Or.inr (Nat.zero_le _)⟩
  · rw [b_0] at hi; exact absurd hi Bool.false_ne_true
  · rw [b_0] at hi; exact absurd hi Bool.false_ne_true
theorem fg_1 (hS : ∀ x, st x → x < 16) (hE : ∀ x z, E x z → z < 16) {k : Nat} {s s' : Int32} (h : fg_in E st k s) (hr : fg_rs E st s s') : fg_in E st (k + 1) s' := by
  obtain ⟨h1, h2, h3⟩ := h
  have hsb : ∀ i, bt s i = true → bt s' i = true := fun i hi => (hr i).mpr (h2 i hi)
  refine ⟨?_, ?_, ?_⟩
  · intro i hi
    rcases (hr i).mp hi with y | ⟨x, hx, e⟩
    · exact fr_b y (fun f => f)
    · exact fr_s (h1 x hx) e (fun f => f)
  · intro i hi
    rcases (hr i).mp hi with y | ⟨x, hx, e⟩
    · exact Or.inl y
    · exact Or.inr ⟨x, hsb x hx, e⟩
  · by_cases hc : s' = s
    · left
      rw [hc]
      rw [hc] at hr
      exact ⟨fun x a _ => (hr x).mpr (Or.inl a), fun x z hx e _ => (hr z).mpr (Or.inr ⟨x, hx, e⟩)⟩
    · rcases h3 with h3 | h3
      · exfalso
        apply hc
        apply fa_ext
        intro i
        refine ⟨fun hi => ?_, hsb i⟩
        rcases (hr i).mp hi with y | ⟨x, hx, e⟩
        · exact h3.1 i y (fun f => f)
        · exact h3.2 x i hx e (fun f => f)
      · right
        obtain ⟨i, hi, hj⟩ := fa_df hsb hc
        have hl : i < 16 := by
          rcases (hr i).mp hj with y | ⟨x, hx, e⟩
          · exact hS i y
          · exact hE x i e
        have h4 := fa_cn_lt hsb hi hj 16 hl
        omega
theorem fg_e (hS : ∀ x, st x → x < 16) (hE : ∀ x z, E x z → z < 16) {s : Int32} (h : fg_in E st 16 s) (i : Nat) : bt s i = true ↔ fr_R E st (fun _ => False) i := by
  obtain ⟨h1, _, h3⟩ := h
  rcases h3 with h3 | h3
  · exact fr_fi h1 h3.1 h3.2 i
  · refine fr_fi h1 (fun x a _ => fa_cn_all 16 h3 x (hS x a)) (fun x z _ e _ => fa_cn_all 16 h3 z (hE x z e)) i
end
-- Rounds until nothing changes: set and what it was before.
def fy_in (E : Nat → Nat → Prop) (st av : Nat → Prop) (s s0 : Int32) : Prop :=
  fr_so E st av s ∧ fr_sr st av s ∧ fa_sb s0 s ∧ ∀ x z, bt s0 x = true → E x z → ¬ av z → bt s z = true
section
variable {E : Nat → Nat → Prop} {st av : Nat → Prop}
theorem fy_0 {s : Int32} (h : ∀ i, bt s i = true ↔ (st i ∧ ¬ av i)) : fy_in E st av s 0 := by
  refine ⟨fun i hi => fr_b ((h i).mp hi).1 ((h i).mp hi).2, fun x a n => (h x).mpr ⟨a, n⟩, fun i hi => ?_, fun x z hx => ?_⟩
  · rw [b_0] at hi; exact absurd hi Bool.false_ne_true
  · rw [b_0] at hx; exact absurd hx Bool.false_ne_true
theorem fy_e {s : Int32} (h : fy_in E st av s s) (i : Nat) : bt s i = true ↔ fr_R E st av i := fr_fi h.1 h.2.1 h.2.2.2 i
theorem fy_1 {s s0 s' : Int32} (h : fy_in E st av s s0) (hr : fr_rd E av s s') : fy_in E st av s' s :=
  ⟨fr_so1 hr h.1, fr_sr1 hr h.2.1, fun i hi => (hr i).mpr (Or.inl hi), fun x z hx e n => (hr z).mpr (Or.inr ⟨⟨x, hx, e⟩, n⟩)⟩
theorem fy_mu {s s0 : Int32} (h : fy_in E st av s s0) (e : ¬ s = s0) : 32 - fa_cn (bt s) 32 < 32 - fa_cn (bt s0) 32 := by
  have h1 := fa_nu_lt h.2.2.1 e
  have h2 := fa_cn_le (bt s) 32
  omega
end
-- Loops: x closes the loop of h; b is in the loop of h.
def fd_T (E : Nat → Nat → Prop) (st : Nat → Prop) (h x : Nat) : Prop := E x h ∧ fd_D E st h x
def fd_L (E : Nat → Nat → Prop) (st : Nat → Prop) (h b : Nat) : Prop :=
  (∃ x, fd_T E st h x) ∧ (b = h ∨ fr_R (fun z x => E x z ∧ fd_M E st x) (fd_T E st h) (fun x => x = h) b)
theorem fd_Le {E : Nat → Nat → Prop} {st : Nat → Prop} {h b : Nat} :
    ((∃ x, fd_T E st h x) ∧ fd_M E st b ∧ (b = h ∨ (∃ t, fr_R E (fun x => x = b) (fun x => x = h) t ∧ fd_T E st h t) ∨ fd_T E st h b)) ↔ fd_L E st h b := by
  constructor
  · rintro ⟨h1, h2, h3⟩
    refine ⟨h1, ?_⟩
    by_cases e : b = h
    · exact Or.inl e
    · right
      rcases h3 with h3 | ⟨t, ht, hT⟩ | h3
      · exact absurd h3 e
      · exact (fr_fb (fun x z m y => fd_Ms m y) h2 e).mpr ⟨t, hT, ht⟩
      · exact fr_b h3 e
  · rintro ⟨h1, h2⟩
    by_cases e : b = h
    · refine ⟨h1, ?_, Or.inl e⟩
      obtain ⟨x, hx⟩ := h1
      rw [e]
      exact hx.2.1
    · have h3 := h2.resolve_left e
      have h4 : fd_M E st b := fr_i (P := fun b => fd_M E st b) (fun x hx _ => hx.2.2.1) (fun z x _ _ q _ => q.2) h3
      obtain ⟨t, hT, ht⟩ := (fr_fb (fun x z m y => fd_Ms m y) h4 e).mp h3
      exact ⟨h1, h4, Or.inr (Or.inl ⟨t, ht, hT⟩)⟩
/-- where a variable's merges are: src are the blocks that set it -/
def fd_G (E : Nat → Nat → Prop) (st src : Nat → Prop) (i : Nat) : Prop := fr_R (fd_F E st) (fun z => ∃ x, src x ∧ fd_F E st x z) (fun _ => False) i
theorem fd_Ge {E : Nat → Nat → Prop} {st s1 s2 : Nat → Prop} (h : ∀ x, fd_M E st x → (s1 x ↔ s2 x)) {i : Nat} : fd_G E st s1 i ↔ fd_G E st s2 i := by
  have e : (fun z => ∃ x, s1 x ∧ fd_F E st x z) = (fun z => ∃ x, s2 x ∧ fd_F E st x z) := by
    funext z
    apply propext
    constructor
    · rintro ⟨x, hx, f⟩
      have hm : fd_M E st x := f.1.elim (fun _ hy => hy.1.1)
      exact ⟨x, (h x hm).mp hx, f⟩
    · rintro ⟨x, hx, f⟩
      have hm : fd_M E st x := f.1.elim (fun _ hy => hy.1.1)
      exact ⟨x, (h x hm).mpr hx, f⟩
  unfold fd_G
  rw [e]
end
section
def sl_in (base : Nat → Prop) (G : Nat → Nat → Prop) (j : Nat) (f : Int32) : Prop := ∀ i, bt f i = true ↔ (base i ∨ ∃ x, x < j ∧ G x i)
section
variable {base : Nat → Prop} {G : Nat → Nat → Prop} {j : Nat} {f f' : Int32}
theorem sl_0 (h : ∀ i, bt f i = true ↔ base i) : sl_in base G 0 f := by
  intro i
  rw [h i]
  exact ⟨Or.inl, fun z => z.elim id (fun ⟨x, hx, _⟩ => absurd hx (Nat.not_lt_zero x))⟩
theorem sl_00 (h : ∀ i, ¬ base i) : sl_in base G 0 0 := by
  refine sl_0 (fun i => ?_)
  rw [b_0]
  exact ⟨fun z => absurd z Bool.false_ne_true, fun z => absurd z (h i)⟩
theorem sl_1 (h : sl_in base G j f) (h' : ∀ i, bt f' i = true ↔ (bt f i = true ∨ G j i)) : sl_in base G (j + 1) f' := by
  intro i
  rw [h' i, h i]
  constructor
  · rintro ((z | ⟨x, hx, z⟩) | z)
    · exact Or.inl z
    · exact Or.inr ⟨x, by omega, z⟩
    · exact Or.inr ⟨j, by omega, z⟩
  · rintro (z | ⟨x, hx, z⟩)
    · exact Or.inl (Or.inl z)
    · by_cases e : x = j
      · rw [e] at z
        exact Or.inr z
      · exact Or.inl (Or.inr ⟨x, by omega, z⟩)
theorem sl_n (h : sl_in base G j f) (h' : ∀ i, ¬ G j i) : sl_in base G (j + 1) f :=
  sl_1 h (fun i => ⟨Or.inl, fun z => z.elim id (fun y => absurd y (h' i))⟩)
theorem sl_e (h : sl_in base G j f) (hj : ∀ x i, G x i → x < j) (i : Nat) : bt f i = true ↔ (base i ∨ ∃ x, G x i) := by
  rw [h i]
  exact ⟨fun z => z.imp id (fun ⟨x, _, y⟩ => ⟨x, y⟩), fun z => z.imp id (fun ⟨x, y⟩ => ⟨x, hj x i y, y⟩)⟩
end
theorem sl_or (f g : Int32) (i : Nat) : bt (f ||| g) i = true ↔ (bt f i = true ∨ bt g i = true) := by rw [b_or, Bool.or_eq_true]
theorem sl_an (f g : Int32) (i : Nat) : bt (f &&& g) i = true ↔ (bt f i = true ∧ bt g i = true) := by rw [b_and, Bool.and_eq_true]
theorem sl_df (f g : Int32) (i : Nat) : bt (f &&& (g ^^^ (-1))) i = true ↔ (bt f i = true ∧ ¬ bt g i = true) := by
  rw [fa_dif, Bool.and_eq_true, Bool.not_eq_true', Bool.not_eq_true]
theorem sl_sg {t : Nat} (ht : t < 32) (i : Nat) : bt ((1 : Int32) <<< (nI t &&& 31)) i = true ↔ i = t := by rw [fa_sg ht, decide_eq_true_iff]
theorem sl_no (i : Nat) : ¬ bt (0 : Int32) i = true := by rw [b_0]; exact Bool.false_ne_true
theorem sl_b1 (i : Nat) : bt (1 : Int32) i = true ↔ i = 0 := by
  by_cases h : i < 32
  · rw [fa_1 i h, decide_eq_true_iff]
  · rw [b_big (by omega)]
    exact ⟨fun z => absurd z Bool.false_ne_true, fun z => by omega⟩
/-- two sets meet -/
theorem sl_me (f g : Int32) : (f &&& g) = 0 ↔ ¬ ∃ i, bt f i = true ∧ bt g i = true := by
  constructor
  · rintro h ⟨i, hi⟩
    have := (sl_an f g i).mpr hi
    rw [h] at this
    exact sl_no i this
  · intro h
    apply fa_ext
    intro i
    exact ⟨fun z => absurd ⟨i, (sl_an f g i).mp z⟩ h, fun z => absurd z (sl_no i)⟩
theorem sl_z (f : Int32) : f = 0 ↔ ¬ ∃ i, bt f i = true := by
  constructor
  · rintro h ⟨i, hi⟩
    rw [h] at hi
    exact sl_no i hi
  · intro h
    apply fa_ext
    intro i
    exact ⟨fun z => absurd ⟨i, z⟩ h, fun z => absurd z (sl_no i)⟩
/-- a Bool for a proposition -/
noncomputable def fa_pc (P : Nat → Prop) (h : Nat) : Bool := @decide (P h) (Classical.propDecidable _)
theorem fa_pt {P : Nat → Prop} {h : Nat} : fa_pc P h = true ↔ P h := by
  unfold fa_pc
  exact @decide_eq_true_iff (P h) (Classical.propDecidable _)
theorem fa_cn1 {p : Nat → Bool} {m : Nat} (h : p m = true) : fa_cn p (m + 1) = fa_cn p m + 1 := by
  show fa_cn p m + (if p m = true then 1 else 0) = _
  rw [if_pos h]
theorem fa_cn0 {p : Nat → Bool} {m : Nat} (h : ¬ p m = true) : fa_cn p (m + 1) = fa_cn p m := by
  show fa_cn p m + (if p m = true then 1 else 0) = _
  rw [if_neg h]
  rfl
theorem fa_cnE {p q : Nat → Bool} : ∀ m, (∀ i, i < m → (p i = true ↔ q i = true)) → fa_cn p m = fa_cn q m
  | 0, _ => rfl
  | m + 1, h => by
    have h1 := fa_cnE m (fun i hi => h i (by omega))
    have h2 := h m (by omega)
    by_cases z : p m = true
    · rw [fa_cn1 z, fa_cn1 (h2.mp z), h1]
    · rw [fa_cn0 z, fa_cn0 (fun y => z (h2.mpr y)), h1]
/-- what lies above counts nothing -/
theorem fa_cnU {p : Nat → Bool} {m : Nat} (h : ∀ i, p i = true → i < m) : ∀ k, fa_cn p (m + k) = fa_cn p m
  | 0 => rfl
  | k + 1 => by
    show fa_cn p ((m + k) + 1) = _
    rw [fa_cn0 (fun z => by have := h _ z; omega), fa_cnU h k]
theorem fa_cn16 {p : Nat → Bool} {m : Nat} (hm : m ≤ 16) (h : ∀ i, p i = true → i < m) : fa_cn p 16 = fa_cn p m := by
  have e : 16 = m + (16 - m) := by omega
  rw [e]
  exact fa_cnU h _
end
section
theorem fl_ub {L : Nat → Int32} {b : Nat} {x : Int32} (h : x = L b) : upd L b x = L := by
  funext j
  unfold upd
  split
  · next e => rw [e, h]
  · rfl
def fl_le (n : Nat) (L M : Nat → Int32) : Prop := ∀ b, b < n → fa_sb (L b) (M b)
/-- the rule W is monotone -/
def fl_mo (n : Nat) (W : (Nat → Int32) → Nat → Int32) : Prop := ∀ L M, fl_le n L M → ∀ b, b < n → fa_sb (W L b) (W M b)
/-- below all that W keeps -/
def fl_lo (n : Nat) (W : (Nat → Int32) → Nat → Int32) (L : Nat → Int32) : Prop := ∀ M, (∀ b, b < n → fa_sb (W M b) (M b)) → fl_le n L M
def fl_up (n : Nat) (W : (Nat → Int32) → Nat → Int32) (L : Nat → Int32) : Prop := ∀ b, b < n → fa_sb (L b) (W L b)
/-- the least solution -/
def fl_ls (n : Nat) (W : (Nat → Int32) → Nat → Int32) (L : Nat → Int32) : Prop := (∀ b, b < n → W L b = L b) ∧ fl_lo n W L
theorem fl_uq {n : Nat} {W : (Nat → Int32) → Nat → Int32} {L M : Nat → Int32} (h : fl_ls n W L) (h' : fl_ls n W M) : ∀ b, b < n → L b = M b := by
  intro b hb
  refine fa_sb_a ?_ ?_
  · exact h.2 M (fun c hc => by rw [h'.1 c hc]; exact fa_sb_r _) b hb
  · exact h'.2 L (fun c hc => by rw [h.1 c hc]; exact fa_sb_r _) b hb
theorem fl_0 {n : Nat} {W : (Nat → Int32) → Nat → Int32} : fl_lo n W (fun _ => 0) ∧ fl_up n W (fun _ => 0) := by
  have h : ∀ w : Int32, fa_sb 0 w := by
    intro w i hi
    rw [b_0] at hi
    exact absurd hi Bool.false_ne_true
  exact ⟨fun M _ b _ => h _, fun b _ => h _⟩
theorem fl_leU {n : Nat} {W : (Nat → Int32) → Nat → Int32} {L : Nat → Int32} (hu : fl_up n W L) {b : Nat} (hb : b < n) : fl_le n L (upd L b (W L b)) := by
  intro c hc
  unfold upd
  split
  · next e => rw [e]; exact hu b hb
  · exact fa_sb_r _
theorem fl_st {n : Nat} {W : (Nat → Int32) → Nat → Int32} {L : Nat → Int32} (hm : fl_mo n W) (hl : fl_lo n W L) (hu : fl_up n W L) {b : Nat} (hb : b < n) :
    fl_lo n W (upd L b (W L b)) ∧ fl_up n W (upd L b (W L b)) := by
  have h1 := fl_leU hu hb
  constructor
  · intro M hM c hc
    unfold upd
    split
    · next e =>
      rw [e]
      exact fa_sb_t (hm L M (hl M hM) b hb) (hM b hb)
    · exact hl M hM c hc
  · intro c hc
    have h2 := hm L _ h1 c hc
    by_cases e : c = b
    · rw [e] at h2 ⊢
      have h3 : upd L b (W L b) b = W L b := by unfold upd; rw [if_pos rfl]
      rw [h3]
      exact h2
    · have h3 : upd L b (W L b) c = L c := by unfold upd; rw [if_neg e]
      rw [h3]
      exact fa_sb_t (hu c hc) h2
def fl_su (L : Nat → Int32) : Nat → Nat
  | 0 => 0
  | n + 1 => fl_su L n + fa_cn (bt (L n)) 32
theorem fl_su_b (L : Nat → Int32) : ∀ n, fl_su L n ≤ 32 * n
  | 0 => by unfold fl_su; omega
  | n + 1 => by
    have h1 := fl_su_b L n
    have h2 := fa_cn_le (bt (L n)) 32
    unfold fl_su
    omega
theorem fl_su_m {L M : Nat → Int32} : ∀ n, fl_le n L M → fl_su L n ≤ fl_su M n
  | 0, _ => Nat.le_refl _
  | n + 1, h => by
    have h1 := fl_su_m n (fun b hb => h b (by omega))
    have h2 := fa_cn_mo (h n (by omega)) 32
    unfold fl_su
    omega
theorem fl_su_l {L M : Nat → Int32} {b : Nat} (e : ¬ M b = L b) : ∀ n, b < n → fl_le n L M → fl_su L n < fl_su M n
  | 0, hb, _ => absurd hb (Nat.not_lt_zero b)
  | n + 1, hb, h => by
    have h0 : fl_le n L M := fun c hc => h c (by omega)
    have h1 := fl_su_m n h0
    have h2 := fa_cn_mo (h n (by omega)) 32
    unfold fl_su
    by_cases z : b = n
    · have h3 := fa_nu_lt (h b hb) e
      rw [z] at h3
      omega
    · have h3 := fl_su_l e n (by omega) h0
      omega
/-- in the midst of a round: D are the blocks that have had their turn -/
def fl_in (n : Nat) (W : (Nat → Int32) → Nat → Int32) (L0 : Nat → Int32) (D : Nat → Prop) (L : Nat → Int32) (ch : Prop) : Prop :=
  fl_lo n W L ∧ fl_up n W L ∧ fl_le n L0 L ∧ (ch → fl_su L0 n < fl_su L n) ∧ (¬ ch → L = L0 ∧ ∀ b, b < n → D b → W L0 b = L0 b)
theorem fl_in0 {n : Nat} {W : (Nat → Int32) → Nat → Int32} {L : Nat → Int32} {D : Nat → Prop} {ch : Prop} (hl : fl_lo n W L) (hu : fl_up n W L) (hc : ¬ ch) (hD : ∀ b, b < n → ¬ D b) : fl_in n W L D L ch :=
  ⟨hl, hu, fun _ _ => fa_sb_r _, fun z => absurd z hc, fun _ => ⟨rfl, fun b hb z => absurd z (hD b hb)⟩⟩
theorem fl_in1 {n : Nat} {W : (Nat → Int32) → Nat → Int32} {L0 L : Nat → Int32} {D D' : Nat → Prop} {ch ch' : Prop} (hm : fl_mo n W) (h : fl_in n W L0 D L ch) {b : Nat} (hb : b < n)
    (hD : ∀ c, D' c → c < n → D c ∨ c = b) (hc : ch' ↔ ch ∨ ¬ W L b = L b) : fl_in n W L0 D' (upd L b (W L b)) ch' := by
  obtain ⟨h1, h2, h3, h4, h5⟩ := h
  have h6 := fl_st hm h1 h2 hb
  have h7 := fl_leU h2 hb
  have h8 : fl_le n L0 (upd L b (W L b)) := fun c hc => fa_sb_t (h3 c hc) (h7 c hc)
  refine ⟨h6.1, h6.2, h8, ?_, ?_⟩
  · intro z
    rcases hc.mp z with z | z
    · have := h4 z
      have := fl_su_m n h7
      omega
    · have h9 := fl_su_m n h3
      have h10 : fl_su L n < fl_su (upd L b (W L b)) n := by
        refine fl_su_l (b := b) ?_ n hb h7
        unfold upd
        rw [if_pos rfl]
        exact z
      omega
  · intro z
    have z1 : ¬ ch := fun y => z (hc.mpr (Or.inl y))
    have z2 : W L b = L b := Classical.byContradiction fun y => z (hc.mpr (Or.inr y))
    obtain ⟨e, h9⟩ := h5 z1
    subst e
    refine ⟨fl_ub z2, fun c hc' hd => ?_⟩
    rcases hD c hd hc' with y | y
    · exact h9 c hc' y
    · rw [y]; exact z2
theorem fl_in2 {n : Nat} {W : (Nat → Int32) → Nat → Int32} {L0 L : Nat → Int32} {D : Nat → Prop} {ch : Prop} (h : fl_in n W L0 D L ch) (hc : ¬ ch) (hD : ∀ b, b < n → D b) : fl_ls n W L := by
  obtain ⟨h1, _, _, _, h5⟩ := h
  obtain ⟨e, h9⟩ := h5 hc
  subst e
  exact ⟨fun b hb => h9 b hb (hD b hb), h1⟩
-- The walk backwards through a block: f i is what instruction i makes of the set behind it.
def fw_d (f : Nat → Int32 → Int32) (w : Int32) (s : Nat) : Nat → Int32
  | 0 => w
  | d + 1 => f (s - 1 - d) (fw_d f w s d)
theorem fw_mo {f f' : Nat → Int32 → Int32} {w w' : Int32} {s : Nat} (h0 : fa_sb w w') : ∀ d, (∀ i, i < d → fa_sb (fw_d f w s i) (fw_d f' w' s i) → fa_sb (f (s - 1 - i) (fw_d f w s i)) (f' (s - 1 - i) (fw_d f' w' s i))) → fa_sb (fw_d f w s d) (fw_d f' w' s d)
  | 0, _ => h0
  | d + 1, h => h d (by omega) (fw_mo h0 d (fun i hi => h i (by omega)))
/-- set d goes, the used ones come -/
def fw_k (m w : Int32) : Int32 := w &&& (m ^^^ (-1))
def fw_g (m u w : Int32) : Int32 := fw_k m w ||| u
theorem fw_kb (m w : Int32) (i : Nat) : bt (fw_k m w) i = (bt w i && !(bt m i)) := fa_dif w m i
theorem fw_gb (m u w : Int32) (i : Nat) : bt (fw_g m u w) i = ((bt w i && !(bt m i)) || bt u i) := by unfold fw_g; rw [b_or, fw_kb]
theorem fw_km {m w w' : Int32} (h : fa_sb w w') : fa_sb (fw_k m w) (fw_k m w') := by
  intro i hi
  rw [fw_kb, Bool.and_eq_true] at hi ⊢
  exact ⟨h i hi.1, hi.2⟩
theorem fw_gm {m u w w' : Int32} (h : fa_sb w w') : fa_sb (fw_g m u w) (fw_g m u w') := by
  intro i hi
  rw [fw_gb, Bool.or_eq_true, Bool.and_eq_true] at hi ⊢
  exact hi.imp (fun z => ⟨h i z.1, z.2⟩) id
theorem fw_kg {m u w : Int32} : fa_sb (fw_k m w) (fw_g m u w) := by
  intro i hi
  rw [fw_gb, ← fw_kb, hi, Bool.true_or]
theorem fw_kw {m w : Int32} : fa_sb (fw_k m w) w := by
  intro i hi
  rw [fw_kb, Bool.and_eq_true] at hi
  exact hi.1
theorem fl_00 {n : Nat} {W : (Nat → Int32) → Nat → Int32} {L : Nat → Int32} (hL : ∀ b, b < n → L b = 0) : fl_lo n W L ∧ fl_up n W L := by
  have h : ∀ w : Int32, fa_sb 0 w := by
    intro w i hi
    rw [b_0] at hi
    exact absurd hi Bool.false_ne_true
  exact ⟨fun M _ b hb => by rw [hL b hb]; exact h _, fun b hb => by rw [hL b hb]; exact h _⟩
end
section
-- s b: how many instructions block b has; m b i: the bit of what instruction i of b sets; u b i: the bits that it uses; dd b i: the variable that it sets
-- ex L b: what is wanted before the exit of b, if L is wanted at the beginnings
def fn_X (dd : Nat → Nat → Nat) (m u : Nat → Nat → Int32) (b i : Nat) (w : Int32) : Int32 := if bt w (dd b i) = true then fw_g (m b i) (u b i) w else w
def fn_N (m u : Nat → Nat → Int32) (N : Nat → Int32) (b i : Nat) (w : Int32) : Int32 := if bt (N b) i = true then fw_g (m b i) (u b i) w else fw_k (m b i) w
def fn_WX (dd : Nat → Nat → Nat) (m u : Nat → Nat → Int32) (s : Nat → Nat) (ex : (Nat → Int32) → Nat → Int32) (L : Nat → Int32) (b : Nat) : Int32 := fw_d (fn_X dd m u b) (ex L b) (s b) (s b)
def fn_WN (m u : Nat → Nat → Int32) (s : Nat → Nat) (ex : (Nat → Int32) → Nat → Int32) (N L : Nat → Int32) (b : Nat) : Int32 := fw_d (fn_N m u N b) (ex L b) (s b) (s b)
section
variable {dd : Nat → Nat → Nat} {m u : Nat → Nat → Int32} {s : Nat → Nat} {ex : (Nat → Int32) → Nat → Int32} {n : Nat} {met : Nat → Prop}
/-- monotony of X's rule -/
theorem fn_Xm {b i : Nat} {w w' : Int32} (hd : ∀ j, bt (m b i) j = true ↔ j = dd b i) (h : fa_sb w w') : fa_sb (fn_X dd m u b i w) (fn_X dd m u b i w') := by
  unfold fn_X
  by_cases z : bt w (dd b i) = true
  · rw [if_pos z, if_pos (h _ z)]
    exact fw_gm h
  · rw [if_neg z]
    by_cases z' : bt w' (dd b i) = true
    · rw [if_pos z']
      intro j hj
      rw [fw_gb, Bool.or_eq_true, Bool.and_eq_true]
      refine Or.inl ⟨h j hj, ?_⟩
      cases hm : bt (m b i) j
      · rfl
      · have e := (hd j).mp hm
        rw [e] at hj
        exact absurd hj z
    · rw [if_neg z']
      exact h
theorem fn_Nm {b i : Nat} {N N' : Nat → Int32} {w w' : Int32} (hN : fa_sb (N b) (N' b)) (h : fa_sb w w') : fa_sb (fn_N m u N b i w) (fn_N m u N' b i w') := by
  unfold fn_N
  by_cases z : bt (N b) i = true
  · rw [if_pos z, if_pos (hN _ z)]
    exact fw_gm h
  · rw [if_neg z]
    by_cases z' : bt (N' b) i = true
    · rw [if_pos z']
      exact fa_sb_t (fw_km h) fw_kg
    · rw [if_neg z']
      exact fw_km h
/-- Y's walk within X's, as long as what Y holds needed is needed in X's sense -/
theorem fn_YX {b : Nat} {N : Nat → Int32} {w w' : Int32} (h0 : fa_sb w w') (hN : ∀ i, i < s b → bt (N b) i = true → bt (fw_d (fn_X dd m u b) w' (s b) (s b - 1 - i)) (dd b i) = true) :
    ∀ d, d ≤ s b → fa_sb (fw_d (fn_N m u N b) w (s b) d) (fw_d (fn_X dd m u b) w' (s b) d) := by
  intro d hd
  refine fw_mo h0 d ?_
  intro i hi h
  have e : s b - 1 - (s b - 1 - i) = i := by omega
  have hN' := hN (s b - 1 - i) (by omega)
  rw [e] at hN'
  generalize fw_d (fn_N m u N b) w (s b) i = y at h ⊢
  generalize fw_d (fn_X dd m u b) w' (s b) i = x at h hN' ⊢
  generalize s b - 1 - i = j at hN' ⊢
  unfold fn_N fn_X
  by_cases z : bt (N b) j = true
  · rw [if_pos z, if_pos (hN' z)]
    exact fw_gm h
  · rw [if_neg z]
    by_cases z' : bt x (dd b j) = true
    · rw [if_pos z']
      exact fa_sb_t (fw_km h) fw_kg
    · rw [if_neg z']
      exact fa_sb_t fw_kw h
/-- where what Y holds needed is just what is wanted behind, the two walks are one -/
theorem fn_eq {b : Nat} {N : Nat → Int32} {w : Int32} (hd : ∀ i, i < s b → ∀ j, bt (m b i) j = true ↔ j = dd b i)
    (hN : ∀ i, i < s b → (bt (N b) i = true ↔ bt (fw_d (fn_N m u N b) w (s b) (s b - 1 - i)) (dd b i) = true)) :
    ∀ d, d ≤ s b → fw_d (fn_X dd m u b) w (s b) d = fw_d (fn_N m u N b) w (s b) d := by
  intro d
  induction d with
  | zero => intro _; rfl
  | succ d ih =>
    intro hd'
    have ih := ih (by omega)
    show fn_X dd m u b (s b - 1 - d) _ = fn_N m u N b (s b - 1 - d) _
    rw [ih]
    have e : s b - 1 - (s b - 1 - d) = d := by omega
    have hN' := hN (s b - 1 - d) (by omega)
    have hd2 := hd (s b - 1 - d) (by omega)
    rw [e] at hN'
    generalize fw_d (fn_N m u N b) w (s b) d = y at hN' ⊢
    generalize s b - 1 - d = j at hN' hd2 ⊢
    unfold fn_X fn_N
    by_cases z : bt y (dd b j) = true
    · rw [if_pos z, if_pos (hN'.mpr z)]
    · rw [if_neg z, if_neg (fun q => z (hN'.mp q))]
      refine fa_sb_a (fun i hi => ?_) fw_kw
      rw [fw_kb, Bool.and_eq_true]
      refine ⟨hi, ?_⟩
      cases hm : bt (m b j) i
      · rfl
      · rw [(hd2 i).mp hm] at hi
        exact absurd hi z
theorem fn_top (w : Int32) : fa_sb w (-1) := by
  intro i hi
  by_cases h : i < 32
  · exact b_m1 i h
  · rw [b_big (by omega)] at hi
    exact absurd hi Bool.false_ne_true
/-- Y's living sets are within X's on MET blocks, while Y's needed are -/
theorem fn_le (hx : ∀ L M b, b < n → met b → (∀ c, c < n → met c → fa_sb (L c) (M c)) → fa_sb (ex L b) (ex M b))
    {LX : Nat → Int32} (hX : ∀ b, b < n → fn_WX dd m u s ex LX b = LX b) {N LY : Nat → Int32} (hY : fl_ls n (fn_WN m u s ex N) LY)
    (hN : ∀ b, b < n → met b → ∀ i, i < s b → bt (N b) i = true → bt (fw_d (fn_X dd m u b) (ex LX b) (s b) (s b - 1 - i)) (dd b i) = true) :
    ∀ b, b < n → met b → fa_sb (LY b) (LX b) := by
  intro b hb mb
  have key := hY.2 (fun b => @ite Int32 (met b) (Classical.propDecidable _) (LX b) (-1)) ?_ b hb
  · dsimp only at key
    rw [if_pos mb] at key
    exact key
  · intro c hc
    by_cases mc : met c
    · rw [if_pos mc, ← hX c hc]
      unfold fn_WN fn_WX
      refine fn_YX ?_ (hN c hc mc) (s c) (Nat.le_refl _)
      refine hx _ _ c hc mc ?_
      intro e he me
      rw [if_pos me]
      exact fa_sb_r _
    · rw [if_neg mc]
      exact fn_top _
/-- X's least sets are within Y's last ones on MET blocks -/
theorem fn_ge (hx : ∀ L M b, b < n → met b → (∀ c, c < n → met c → fa_sb (L c) (M c)) → fa_sb (ex L b) (ex M b))
    (hd : ∀ b, b < n → ∀ i, i < s b → ∀ j, bt (m b i) j = true ↔ j = dd b i)
    {LX : Nat → Int32} (hX : fl_lo n (fn_WX dd m u s ex) LX) {N LY : Nat → Int32} (hY : ∀ b, b < n → fn_WN m u s ex N LY b = LY b)
    (hN : ∀ b, b < n → met b → ∀ i, i < s b → (bt (N b) i = true ↔ bt (fw_d (fn_N m u N b) (ex LY b) (s b) (s b - 1 - i)) (dd b i) = true)) :
    ∀ b, b < n → met b → fa_sb (LX b) (LY b) := by
  intro b hb mb
  have key := hX (fun b => @ite Int32 (met b) (Classical.propDecidable _) (LY b) (-1)) ?_ b hb
  · dsimp only at key
    rw [if_pos mb] at key
    exact key
  · intro c hc
    by_cases mc : met c
    · rw [if_pos mc, ← hY c hc]
      unfold fn_WX fn_WN
      rw [← fn_eq (hd c hc) (hN c hc mc) (s c) (Nat.le_refl _)]
      refine fw_mo ?_ (s c) (fun i hi h => fn_Xm (hd c hc _ (by omega)) h)
      refine hx _ _ c hc mc ?_
      intro e he me
      rw [if_pos me]
      exact fa_sb_r _
    · rw [if_neg mc]
      exact fn_top _
/-- what Y holds needed in the end is what is wanted behind in X -/
theorem fn_fin (hx : ∀ L M b, b < n → met b → (∀ c, c < n → met c → fa_sb (L c) (M c)) → fa_sb (ex L b) (ex M b))
    (hd : ∀ b, b < n → ∀ i, i < s b → ∀ j, bt (m b i) j = true ↔ j = dd b i)
    {LX : Nat → Int32} (hX : fl_ls n (fn_WX dd m u s ex) LX) {N LY : Nat → Int32} (hY : fl_ls n (fn_WN m u s ex N) LY)
    (hN : ∀ b, b < n → met b → ∀ i, i < s b → (bt (N b) i = true ↔ bt (fw_d (fn_N m u N b) (ex LY b) (s b) (s b - 1 - i)) (dd b i) = true))
    (hN2 : ∀ b, b < n → met b → ∀ i, i < s b → bt (N b) i = true → bt (fw_d (fn_X dd m u b) (ex LX b) (s b) (s b - 1 - i)) (dd b i) = true)
    {b : Nat} (hb : b < n) (mb : met b) {i : Nat} (hi : i < s b) :
    bt (N b) i = true ↔ bt (fw_d (fn_X dd m u b) (ex LX b) (s b) (s b - 1 - i)) (dd b i) = true := by
  refine ⟨hN2 b hb mb i hi, fun h => (hN b hb mb i hi).mpr ?_⟩
  have h1 := fn_ge hx hd hX.2 hY.1 hN
  rw [← fn_eq (hd b hb) (hN b hb mb) (s b - 1 - i) (by omega)]
  refine (fw_mo (hx _ _ b hb mb h1) (s b - 1 - i) (fun j hj h => fn_Xm (hd b hb _ (by omega)) h)) _ h
/-- one round of Y's keeps within X's -/
theorem fn_rd (hx : ∀ L M b, b < n → met b → (∀ c, c < n → met c → fa_sb (L c) (M c)) → fa_sb (ex L b) (ex M b))
    {LX : Nat → Int32} (hX : ∀ b, b < n → fn_WX dd m u s ex LX b = LX b) {N LY : Nat → Int32} (hY : fl_ls n (fn_WN m u s ex N) LY)
    (hN : ∀ b, b < n → met b → ∀ i, i < s b → bt (N b) i = true → bt (fw_d (fn_X dd m u b) (ex LX b) (s b) (s b - 1 - i)) (dd b i) = true)
    {b : Nat} (hb : b < n) (mb : met b) {i : Nat} (hi : i < s b) (h : bt (fw_d (fn_N m u N b) (ex LY b) (s b) (s b - 1 - i)) (dd b i) = true) :
    bt (fw_d (fn_X dd m u b) (ex LX b) (s b) (s b - 1 - i)) (dd b i) = true :=
  fn_YX (hx _ _ b hb mb (fn_le hx hX hY hN)) (hN b hb mb) (s b - 1 - i) (by omega) _ h
/-- Y's rule grows with N, and so do its least sets and what is wanted behind -/
theorem fn_gr (hx0 : ∀ L M b, b < n → fl_le n L M → fa_sb (ex L b) (ex M b)) {N N' LY LY' : Nat → Int32} (hN : ∀ b, b < n → fa_sb (N b) (N' b))
    (hY : fl_ls n (fn_WN m u s ex N) LY) (hY' : fl_ls n (fn_WN m u s ex N') LY') : fl_le n LY LY' ∧
    ∀ b, b < n → ∀ d, fa_sb (fw_d (fn_N m u N b) (ex LY b) (s b) d) (fw_d (fn_N m u N' b) (ex LY' b) (s b) d) := by
  have h1 : fl_le n LY LY' := by
    refine hY.2 LY' ?_
    intro b hb
    have h2 : fa_sb (fn_WN m u s ex N LY' b) (fn_WN m u s ex N' LY' b) := fw_mo (fa_sb_r _) (s b) (fun i _ h => fn_Nm (hN b hb) h)
    rw [hY'.1 b hb] at h2
    exact h2
  exact ⟨h1, fun b hb d => fw_mo (hx0 _ _ b hb h1) d (fun i _ h => fn_Nm (hN b hb) h)⟩
/-- what a round finds needed in block x -/
def fn_S (dd : Nat → Nat → Nat) (m u : Nat → Nat → Int32) (s : Nat → Nat) (ex : (Nat → Int32) → Nat → Int32) (met : Nat → Prop) (N LY : Nat → Int32) (x : Nat) (c : Int32) : Prop :=
  ∀ i, bt c i = true ↔ (i < s x ∧ met x ∧ bt (fw_d (fn_N m u N x) (ex LY x) (s x) (s x - 1 - i)) (dd x i) = true)
/-- at the head of a round: N grows, and is within what X wants -/
def fn_I (dd : Nat → Nat → Nat) (m u : Nat → Nat → Int32) (s : Nat → Nat) (ex : (Nat → Int32) → Nat → Int32) (n : Nat) (met : Nat → Prop) (N : Nat → Int32) : Prop :=
  (∀ LY, fl_ls n (fn_WN m u s ex N) LY → ∀ x, x < n → ∀ c, fn_S dd m u s ex met N LY x c → fa_sb (N x) c) ∧
  (∀ x, x < n → ∀ i, bt (N x) i = true → i < s x ∧ met x) ∧
  (∀ LX, (∀ b, b < n → fn_WX dd m u s ex LX b = LX b) → ∀ b, b < n → met b → ∀ i, i < s b → bt (N b) i = true → bt (fw_d (fn_X dd m u b) (ex LX b) (s b) (s b - 1 - i)) (dd b i) = true)
theorem fn_I0 {N : Nat → Int32} (h : ∀ x, x < n → N x = 0) : fn_I dd m u s ex n met N := by
  refine ⟨fun LY _ x hx c _ i hi => ?_, fun x hx i hi => ?_, fun LX _ b hb _ i _ hi => ?_⟩
  · rw [h x hx, b_0] at hi; exact absurd hi Bool.false_ne_true
  · rw [h x hx, b_0] at hi; exact absurd hi Bool.false_ne_true
  · rw [h b hb, b_0] at hi; exact absurd hi Bool.false_ne_true
theorem fn_I1 (hx0 : ∀ L M b, b < n → fl_le n L M → fa_sb (ex L b) (ex M b))
    (hx : ∀ L M b, b < n → met b → (∀ c, c < n → met c → fa_sb (L c) (M c)) → fa_sb (ex L b) (ex M b))
    {N LY N' : Nat → Int32} (h : fn_I dd m u s ex n met N) (hY : fl_ls n (fn_WN m u s ex N) LY) (hN : ∀ x, x < n → fn_S dd m u s ex met N LY x (N' x)) : fn_I dd m u s ex n met N' := by
  obtain ⟨h1, h2, h3⟩ := h
  have hs : ∀ x, x < n → fa_sb (N x) (N' x) := fun x hx => h1 LY hY x hx (N' x) (hN x hx)
  refine ⟨?_, ?_, ?_⟩
  · intro LY' hY' x hx c hc i hi
    have g := (fn_gr hx0 hs hY hY').2 x hx
    obtain ⟨a1, a2, a3⟩ := (hN x hx i).mp hi
    exact (hc i).mpr ⟨a1, a2, g _ _ a3⟩
  · intro x hx i hi
    obtain ⟨a1, a2, _⟩ := (hN x hx i).mp hi
    exact ⟨a1, a2⟩
  · intro LX hX b hb mb i hi hb'
    obtain ⟨_, _, a3⟩ := (hN b hb i).mp hb'
    exact fn_rd hx hX hY (h3 LX hX) hb mb hi a3
/-- nothing new: what is needed is what X wants behind -/
theorem fn_I2 (hx : ∀ L M b, b < n → met b → (∀ c, c < n → met c → fa_sb (L c) (M c)) → fa_sb (ex L b) (ex M b))
    (hd : ∀ b, b < n → ∀ i, i < s b → ∀ j, bt (m b i) j = true ↔ j = dd b i)
    {N LY LX : Nat → Int32} (h : fn_I dd m u s ex n met N) (hY : fl_ls n (fn_WN m u s ex N) LY) (hN : ∀ x, x < n → fn_S dd m u s ex met N LY x (N x))
    (hX : fl_ls n (fn_WX dd m u s ex) LX) {b : Nat} (hb : b < n) (mb : met b) {i : Nat} (hi : i < s b) :
    bt (N b) i = true ↔ bt (fw_d (fn_X dd m u b) (ex LX b) (s b) (s b - 1 - i)) (dd b i) = true := by
  refine fn_fin hx hd hX hY ?_ (h.2.2 LX hX.1) hb mb hi
  intro c hc mc j hj
  refine ⟨fun z => ((hN c hc j).mp z).2.2, fun z => (hN c hc j).mpr ⟨hj, mc, z⟩⟩
end
end
section
def fz_V : Int64 := 10000000001
def fz_N : Int64 := 10000000000
def fz_ok (x : Int64) : Prop := x = fz_V ∨ ∃ c : Int32, x = c.toInt64
def fz_le (x y : Int64) : Prop := x = y ∨ y = fz_V
theorem fz_rf (x : Int64) : fz_le x x := Or.inl rfl
/-- the constants worked out -/
def fz_w (op x y : Int32) : Int32 := if op = 2 then x + y else if op = 3 then x - y else if op = 4 then x * y else if op = 5 then (if x < y then 1 else 0) else if y = 0 then 0 else x / y
/-- what an instruction sets, out of the values now -/
def fz_v (op a b : Int32) (now : Nat → Int64) : Int64 :=
  if op = 7 then fz_V else if op = 0 then a.toInt64 else if op = 1 then now a.toNatClampNeg else
  if op = 4 ∧ (now a.toNatClampNeg = 0 ∨ now b.toNatClampNeg = 0) then 0 else
  if now a.toNatClampNeg = fz_V ∨ now b.toNatClampNeg = fz_V then fz_V else
  (fz_w op (now a.toNatClampNeg).toInt32 (now b.toNatClampNeg).toInt32).toInt64
theorem fz_c0 : (0 : Int64) = (0 : Int32).toInt64 := by decide
theorem fz_cV (c : Int32) : ¬ c.toInt64 = fz_V := by
  intro h
  have h1 := congrArg Int64.toInt h
  have h2 : fz_V.toInt = 10000000001 := by decide
  rw [Int32.toInt_toInt64, h2] at h1
  have h3 := c.toInt_lt
  omega
theorem fz_cN (c : Int32) : ¬ c.toInt64 = fz_N := by
  intro h
  have h1 := congrArg Int64.toInt h
  have h2 : fz_N.toInt = 10000000000 := by decide
  rw [Int32.toInt_toInt64, h2] at h1
  have h3 := c.toInt_lt
  omega
theorem fz_okN {x : Int64} (h : fz_ok x) : ¬ x = fz_N := by
  rcases h with h | ⟨c, h⟩
  · rw [h]; decide
  · rw [h]; exact fz_cN c
theorem fz_vok {op a b : Int32} {now : Nat → Int64} (h : ∀ v, fz_ok (now v)) : fz_ok (fz_v op a b now) := by
  unfold fz_v
  split
  · exact Or.inl rfl
  split
  · exact Or.inr ⟨a, rfl⟩
  split
  · exact h _
  split
  · exact Or.inr ⟨0, fz_c0⟩
  split
  · exact Or.inl rfl
  · exact Or.inr ⟨_, rfl⟩
theorem fz_vm {op a b : Int32} {now now' : Nat → Int64} (h : ∀ v, fz_le (now v) (now' v)) : fz_le (fz_v op a b now) (fz_v op a b now') := by
  have ha := h a.toNatClampNeg
  have hb := h b.toNatClampNeg
  unfold fz_v
  generalize now a.toNatClampNeg = x at ha ⊢
  generalize now' a.toNatClampNeg = x' at ha ⊢
  generalize now b.toNatClampNeg = y at hb ⊢
  generalize now' b.toNatClampNeg = y' at hb ⊢
  by_cases h7 : op = 7
  · rw [if_pos h7, if_pos h7]; exact fz_rf _
  rw [if_neg h7, if_neg h7]
  by_cases h0 : op = 0
  · rw [if_pos h0, if_pos h0]; exact fz_rf _
  rw [if_neg h0, if_neg h0]
  by_cases h1 : op = 1
  · rw [if_pos h1, if_pos h1]; exact ha
  rw [if_neg h1, if_neg h1]
  by_cases q' : op = 4 ∧ (x' = 0 ∨ y' = 0)
  · have q : op = 4 ∧ (x = 0 ∨ y = 0) := by
      refine ⟨q'.1, q'.2.imp (fun z => ?_) (fun z => ?_)⟩
      · rcases ha with e | e
        · exact e.trans z
        · exact absurd (e.symm.trans z) (by decide)
      · rcases hb with e | e
        · exact e.trans z
        · exact absurd (e.symm.trans z) (by decide)
    rw [if_pos q', if_pos q]; exact fz_rf _
  rw [if_neg q']
  by_cases p' : x' = fz_V ∨ y' = fz_V
  · rw [if_pos p']; exact Or.inr rfl
  rw [if_neg p']
  have ex : x = x' := ha.resolve_right (fun z => p' (Or.inl z))
  have ey : y = y' := hb.resolve_right (fun z => p' (Or.inr z))
  subst ex
  subst ey
  rw [if_neg q', if_neg p']
  exact fz_rf _
/-- through the first i instructions of the block whose first slot is q -/
def fz_th (op d a b : Nat → Int32) (q : Nat) (now : Nat → Int64) : Nat → Nat → Int64
  | 0 => now
  | i + 1 => vp_updL (fz_th op d a b q now i) (d (q + i)).toNatClampNeg (fz_v (op (q + i)) (a (q + i)) (b (q + i)) (fz_th op d a b q now i))
theorem fz_thok {op d a b : Nat → Int32} {q : Nat} {now : Nat → Int64} (h : ∀ v, fz_ok (now v)) : ∀ i v, fz_ok (fz_th op d a b q now i v)
  | 0, v => h v
  | i + 1, v => by
    have ih := fz_thok (op := op) (d := d) (a := a) (b := b) (q := q) h i
    show fz_ok (vp_updL _ _ _ v)
    unfold vp_updL
    split
    · exact fz_vok ih
    · exact ih v
theorem fz_thm {op d a b : Nat → Int32} {q : Nat} {now now' : Nat → Int64} (h : ∀ v, fz_le (now v) (now' v)) : ∀ i v, fz_le (fz_th op d a b q now i v) (fz_th op d a b q now' i v)
  | 0, v => h v
  | i + 1, v => by
    have ih := fz_thm (op := op) (d := d) (a := a) (b := b) (q := q) h i
    show fz_le (vp_updL _ _ _ v) (vp_updL _ _ _ v)
    unfold vp_updL
    split
    · exact fz_vm ih
    · exact ih v
/-- two values come together -/
def fz_j (x y : Int64) : Int64 := if x = fz_N ∨ x = y then y else fz_V
def fz_ht (x : Int64) : Nat := if x = fz_N then 0 else if x = fz_V then 2 else 1
theorem fz_jok {x y : Int64} (h : fz_ok y) : fz_ok (fz_j x y) := by
  unfold fz_j
  split
  · exact h
  · exact Or.inl rfl
theorem fz_jle {x y : Int64} (hx : ¬ x = fz_N) : fz_le x (fz_j x y) := by
  unfold fz_j
  split
  · next h => exact Or.inl (h.resolve_left hx)
  · exact Or.inr rfl
theorem fz_jht {x y : Int64} (h : fz_ok y) : fz_ht x ≤ fz_ht (fz_j x y) ∧ (¬ fz_j x y = x → fz_ht x < fz_ht (fz_j x y)) := by
  have hV : ¬ fz_V = fz_N := by decide
  have hy := fz_okN h
  unfold fz_j
  by_cases h1 : x = fz_N
  · rw [if_pos (Or.inl h1)]
    unfold fz_ht
    rw [if_pos h1, if_neg hy]
    exact ⟨Nat.zero_le _, fun _ => by split <;> omega⟩
  · by_cases h2 : x = y
    · rw [if_pos (Or.inr h2), ← h2]
      exact ⟨Nat.le_refl _, fun z => absurd rfl z⟩
    · rw [if_neg (by simp [h1, h2])]
      unfold fz_ht
      rw [if_neg h1, if_neg hV, if_pos rfl]
      by_cases h3 : x = fz_V
      · rw [if_pos h3]
        exact ⟨Nat.le_refl _, fun z => absurd h3.symm z⟩
      · rw [if_neg h3]
        exact ⟨by decide, fun _ => by decide⟩
-- The whole solution: p.1 are the values at the beginnings (variable v of block b at 6 * b + v), p.2 the OPEN blocks.
def fz_sm (f : Nat → Nat) : Nat → Nat
  | 0 => 0
  | m + 1 => fz_sm f m + f m
theorem fz_sm_b {f : Nat → Nat} {c : Nat} (h : ∀ j, f j ≤ c) : ∀ m, fz_sm f m ≤ c * m
  | 0 => by unfold fz_sm; omega
  | m + 1 => by
    have h1 := fz_sm_b h m
    have h2 := h m
    unfold fz_sm
    rw [Nat.mul_add_one]
    omega
theorem fz_sm_m {f g : Nat → Nat} : ∀ m, (∀ j, j < m → f j ≤ g j) → fz_sm f m ≤ fz_sm g m
  | 0, _ => Nat.le_refl _
  | m + 1, h => by
    have h1 := fz_sm_m m (fun j hj => h j (by omega))
    have h2 := h m (by omega)
    unfold fz_sm
    omega
theorem fz_sm_l {f g : Nat → Nat} {i : Nat} (e : f i < g i) : ∀ m, i < m → (∀ j, j < m → f j ≤ g j) → fz_sm f m < fz_sm g m
  | 0, hi, _ => absurd hi (Nat.not_lt_zero i)
  | m + 1, hi, h => by
    have h1 := fz_sm_m m (fun j hj => h j (by omega))
    have h2 := h m (by omega)
    unfold fz_sm
    by_cases z : i = m
    · subst z
      omega
    · have h3 := fz_sm_l e m (by omega) (fun j hj => h j (by omega))
      omega
def fz_on (x : Bool) : Nat := if x = true then 1 else 0
def fz_mu (p : (Nat → Int64) × (Nat → Bool)) : Nat := fz_sm (fun j => fz_ht (p.1 j)) 96 + fz_sm (fun i => fz_on (p.2 i)) 16
theorem fz_mub (p : (Nat → Int64) × (Nat → Bool)) : fz_mu p ≤ 208 := by
  have h1 := fz_sm_b (f := fun j => fz_ht (p.1 j)) (c := 2) (by intro j; unfold fz_ht; split; omega; split <;> omega) 96
  have h2 := fz_sm_b (f := fun i => fz_on (p.2 i)) (c := 1) (by intro j; unfold fz_on; split <;> omega) 16
  unfold fz_mu
  omega
/-- the values now spread to block t -/
def fz_sp (t : Nat) (nw : Nat → Int64) (p : (Nat → Int64) × (Nat → Bool)) : (Nat → Int64) × (Nat → Bool) :=
  (fun j => if 6 * t ≤ j ∧ j < 6 * t + 6 then fz_j (p.1 j) (nw (j - 6 * t)) else p.1 j, fun i => p.2 i || decide (i = t))
/-- blocks that aren't OPEN have nothing, OPEN ones have all -/
def fz_iv (n : Nat) (p : (Nat → Int64) × (Nat → Bool)) : Prop := ∀ b, (p.2 b = true → b < n ∧ ∀ v, v < 6 → fz_ok (p.1 (6 * b + v))) ∧ (p.2 b = false → ∀ v, v < 6 → p.1 (6 * b + v) = fz_N)
/-- p is carried on to q: what was OPEN is OPEN, and its values are the same or VARY -/
def fz_ge (p q : (Nat → Int64) × (Nat → Bool)) : Prop := ∀ b, p.2 b = true → q.2 b = true ∧ ∀ v, v < 6 → fz_le (p.1 (6 * b + v)) (q.1 (6 * b + v))
theorem fz_le_t {x y z : Int64} (h : fz_le x y) (h' : fz_le y z) : fz_le x z := by
  rcases h' with e | e
  · rw [← e]; exact h
  · exact Or.inr e
theorem fz_ge_r (p : (Nat → Int64) × (Nat → Bool)) : fz_ge p p := fun _ h => ⟨h, fun _ _ => fz_rf _⟩
theorem fz_ge_t {p q w : (Nat → Int64) × (Nat → Bool)} (h : fz_ge p q) (h' : fz_ge q w) : fz_ge p w :=
  fun b z => ⟨(h' b (h b z).1).1, fun v hv => fz_le_t ((h b z).2 v hv) ((h' b (h b z).1).2 v hv)⟩
theorem fz_sp1 {t : Nat} {nw : Nat → Int64} {p : (Nat → Int64) × (Nat → Bool)} {v : Nat} (hv : v < 6) : (fz_sp t nw p).1 (6 * t + v) = fz_j (p.1 (6 * t + v)) (nw v) := by
  unfold fz_sp
  dsimp only
  rw [if_pos (by omega), Nat.add_sub_cancel_left]
theorem fz_sp2 {t b : Nat} {nw : Nat → Int64} {p : (Nat → Int64) × (Nat → Bool)} {v : Nat} (hv : v < 6) (hb : ¬ b = t) : (fz_sp t nw p).1 (6 * b + v) = p.1 (6 * b + v) := by
  unfold fz_sp
  dsimp only
  rw [if_neg (by omega)]
theorem fz_sp3 {t i : Nat} {nw : Nat → Int64} {p : (Nat → Int64) × (Nat → Bool)} : (fz_sp t nw p).2 i = true ↔ (p.2 i = true ∨ i = t) := by
  unfold fz_sp
  dsimp only
  rw [Bool.or_eq_true, decide_eq_true_iff]
theorem fz_sp_iv {n t : Nat} {nw : Nat → Int64} {p : (Nat → Int64) × (Nat → Bool)} (ht : t < n) (hw : ∀ v, fz_ok (nw v)) (h : fz_iv n p) : fz_iv n (fz_sp t nw p) := by
  intro b
  constructor
  · intro hb
    by_cases e : b = t
    · subst e
      refine ⟨ht, fun v hv => ?_⟩
      rw [fz_sp1 hv]
      exact fz_jok (hw v)
    · have hb' := (fz_sp3.mp hb).resolve_right e
      refine ⟨((h b).1 hb').1, fun v hv => ?_⟩
      rw [fz_sp2 hv e]
      exact ((h b).1 hb').2 v hv
  · intro hb v hv
    have e : ¬ b = t := by
      intro e
      have := (fz_sp3 (t := t) (nw := nw) (p := p)).mpr (Or.inr e)
      rw [hb] at this
      exact Bool.false_ne_true this
    have hb' : p.2 b = false := by
      cases z : p.2 b
      · rfl
      · have := (fz_sp3 (t := t) (nw := nw) (p := p)).mpr (Or.inl z)
        rw [hb] at this
        exact absurd this Bool.false_ne_true
    rw [fz_sp2 hv e]
    exact (h b).2 hb' v hv
theorem fz_sp_ge {n t : Nat} {nw : Nat → Int64} {p : (Nat → Int64) × (Nat → Bool)} (h : fz_iv n p) : fz_ge p (fz_sp t nw p) := by
  intro b hb
  refine ⟨fz_sp3.mpr (Or.inl hb), fun v hv => ?_⟩
  by_cases e : b = t
  · subst e
    rw [fz_sp1 hv]
    exact fz_jle (fz_okN (((h b).1 hb).2 v hv))
  · rw [fz_sp2 hv e]
    exact fz_rf _
/-- nothing goes down; and where something is new, the measure goes up -/
theorem fz_sp_mu {t : Nat} {nw : Nat → Int64} {p : (Nat → Int64) × (Nat → Bool)} (ht : t < 16) (hw : ∀ v, fz_ok (nw v)) :
    fz_mu p ≤ fz_mu (fz_sp t nw p) ∧ ((p.2 t = false ∨ ∃ v, v < 6 ∧ ¬ fz_j (p.1 (6 * t + v)) (nw v) = p.1 (6 * t + v)) → fz_mu p < fz_mu (fz_sp t nw p)) := by
  have h1 : ∀ j, j < 96 → fz_ht (p.1 j) ≤ fz_ht ((fz_sp t nw p).1 j) := by
    intro j _
    unfold fz_sp
    dsimp only
    split
    · exact (fz_jht (hw _)).1
    · exact Nat.le_refl _
  have h2 : ∀ i, i < 16 → fz_on (p.2 i) ≤ fz_on ((fz_sp t nw p).2 i) := by
    intro i _
    unfold fz_sp fz_on
    dsimp only
    by_cases z : p.2 i = true
    · rw [if_pos z, if_pos (by rw [z]; rfl)]; exact Nat.le_refl _
    · rw [if_neg z]; exact Nat.zero_le _
  have h3 := fz_sm_m 96 h1
  have h4 := fz_sm_m 16 h2
  unfold fz_mu
  refine ⟨by omega, fun h => ?_⟩
  rcases h with h | ⟨v, hv, h⟩
  · have h5 := fz_sm_l (f := fun i => fz_on (p.2 i)) (g := fun i => fz_on ((fz_sp t nw p).2 i)) (i := t) (by
      rw [h, fz_sp3.mpr (Or.inr rfl)]
      decide) 16 ht h2
    omega
  · have h5 := fz_sm_l (f := fun j => fz_ht (p.1 j)) (g := fun j => fz_ht ((fz_sp t nw p).1 j)) (i := 6 * t + v) (by
      rw [fz_sp1 hv]
      exact (fz_jht (hw v)).2 h) 96 (by omega) h1
    omega
/-- nothing new: the same -/
theorem fz_sp_eq {t : Nat} {nw : Nat → Int64} {p : (Nat → Int64) × (Nat → Bool)} (h : p.2 t = true) (h' : ∀ v, v < 6 → fz_j (p.1 (6 * t + v)) (nw v) = p.1 (6 * t + v)) : fz_sp t nw p = p := by
  unfold fz_sp
  apply Prod.ext
  · funext j
    dsimp only
    split
    · next q =>
      have h2 := h' (j - 6 * t) (by omega)
      have e : 6 * t + (j - 6 * t) = j := by omega
      rw [e] at h2
      exact h2
    · rfl
  · funext i
    dsimp only
    by_cases e : i = t
    · rw [e, h]; rfl
    · rw [decide_eq_false e, Bool.or_false]
/-- the values at the beginning of block x, as a row of their own -/
def fz_bg (B : Nat → Int64) (x : Nat) (v : Nat) : Int64 := if v < 6 then B (6 * x + v) else fz_V
/-- the first edge is OPEN; the second -/
abbrev fz_lt (kd : Nat → Int32) (x : Nat) (t : Int64) : Prop := kd x = 1 ∨ (kd x = 2 ∧ ¬ t = 0)
abbrev fz_l2 (kd : Nat → Int32) (x : Nat) (t : Int64) : Prop := kd x = 2 ∧ (t = 0 ∨ t = fz_V)
theorem fz_ltm {kd : Nat → Int32} {x : Nat} {t t' : Int64} (h : fz_le t t') (z : fz_lt kd x t) : fz_lt kd x t' := by
  rcases z with z | z
  · exact Or.inl z
  · refine Or.inr ⟨z.1, ?_⟩
    rcases h with e | e
    · rw [← e]; exact z.2
    · rw [e]; decide
theorem fz_l2m {kd : Nat → Int32} {x : Nat} {t t' : Int64} (h : fz_le t t') (z : fz_l2 kd x t) : fz_l2 kd x t' := by
  refine ⟨z.1, ?_⟩
  rcases h with e | e
  · rw [← e]; exact z.2
  · exact Or.inr e
section
variable (sz kd ev th el op d a b : Nat → Int32)
/-- the values at the end of block x -/
def fz_en (B : Nat → Int64) (x : Nat) : Nat → Int64 := fz_th op d a b (4 * x) (fz_bg B x) (sz x).toNatClampNeg
def fz_s1 (x : Nat) (nw : Nat → Int64) (p : (Nat → Int64) × (Nat → Bool)) : (Nat → Int64) × (Nat → Bool) :=
  if fz_lt kd x (nw (ev x).toNatClampNeg) then fz_sp (th x).toNatClampNeg nw p else p
def fz_s2 (x : Nat) (nw : Nat → Int64) (p : (Nat → Int64) × (Nat → Bool)) : (Nat → Int64) × (Nat → Bool) :=
  if fz_l2 kd x (nw (ev x).toNatClampNeg) then fz_sp (el x).toNatClampNeg nw p else p
def fz_st (x : Nat) (p : (Nat → Int64) × (Nat → Bool)) : (Nat → Int64) × (Nat → Bool) :=
  if p.2 x = true then fz_s2 kd ev el x (fz_en sz op d a b p.1 x) (fz_s1 kd ev th x (fz_en sz op d a b p.1 x) p) else p
def fz_rd (p : (Nat → Int64) × (Nat → Bool)) : Nat → (Nat → Int64) × (Nat → Bool)
  | 0 => p
  | x + 1 => fz_st sz kd ev th el op d a b x (fz_rd p x)
def fz_it (n : Nat) (p : (Nat → Int64) × (Nat → Bool)) : Nat → (Nat → Int64) × (Nat → Bool)
  | 0 => p
  | r + 1 => fz_rd sz kd ev th el op d a b (fz_it n p r) n
/-- the solution: what the rounds come to -/
def fz_so (n : Nat) (p0 p : (Nat → Int64) × (Nat → Bool)) : Prop := (∃ r, p = fz_it sz kd ev th el op d a b n p0 r) ∧ fz_rd sz kd ev th el op d a b p n = p
end
section
variable {sz kd ev th el op d a b : Nat → Int32} {n : Nat} {p0 p q : (Nat → Int64) × (Nat → Bool)}
theorem fz_itf {r : Nat} (h : fz_rd sz kd ev th el op d a b (fz_it sz kd ev th el op d a b n p0 r) n = fz_it sz kd ev th el op d a b n p0 r) :
    ∀ k, fz_it sz kd ev th el op d a b n p0 (r + k) = fz_it sz kd ev th el op d a b n p0 r
  | 0 => rfl
  | k + 1 => by
    show fz_rd sz kd ev th el op d a b (fz_it sz kd ev th el op d a b n p0 (r + k)) n = _
    rw [fz_itf h k, h]
theorem fz_so_u (h : fz_so sz kd ev th el op d a b n p0 p) (h' : fz_so sz kd ev th el op d a b n p0 q) : q = p := by
  obtain ⟨⟨r, e⟩, f⟩ := h
  obtain ⟨⟨r', e'⟩, f'⟩ := h'
  subst e
  subst e'
  rcases Nat.le_total r r' with z | z
  · obtain ⟨k, hk⟩ := Nat.le.dest z
    rw [← hk]
    exact fz_itf f k
  · obtain ⟨k, hk⟩ := Nat.le.dest z
    rw [← hk]
    exact (fz_itf f' k).symm
theorem fz_bgok {x : Nat} {B : Nat → Int64} (h : ∀ v, v < 6 → fz_ok (B (6 * x + v))) : ∀ v, fz_ok (fz_bg B x v) := by
  intro v
  unfold fz_bg
  split
  · next hv => exact h v hv
  · exact Or.inl rfl
theorem fz_enok {x : Nat} (h : fz_iv n p) (hx : p.2 x = true) : ∀ v, fz_ok (fz_en sz op d a b p.1 x v) :=
  fz_thok (fz_bgok ((h x).1 hx).2) _
theorem fz_enm {x : Nat} (h : fz_ge p q) (hx : p.2 x = true) : ∀ v, fz_le (fz_en sz op d a b p.1 x v) (fz_en sz op d a b q.1 x v) := by
  refine fz_thm ?_ _
  intro v
  unfold fz_bg
  split
  · next hv => exact (h x hx).2 v hv
  · exact fz_rf _
/-- the program's targets -/
def fz_tg (n : Nat) (kd th el : Nat → Int32) : Prop := n ≤ 16 ∧ ∀ x, x < n → (¬ kd x = 0 → (th x).toNatClampNeg < n) ∧ (kd x = 2 → (el x).toNatClampNeg < n)
theorem fz_n12 : ¬ (1 : Int32) = 0 := by decide
theorem fz_n20 : ¬ (2 : Int32) = 0 := by decide
theorem fz_ltn {x : Nat} {t : Int64} (h : fz_lt kd x t) : ¬ kd x = 0 := by
  rcases h with h | h
  · rw [h]; decide
  · rw [h.1]; decide
theorem fz_s1a {x : Nat} {nw : Nat → Int64} (ht : fz_tg n kd th el) (hx : x < n) (hw : ∀ v, fz_ok (nw v)) (h : fz_iv n p) :
    fz_iv n (fz_s1 kd ev th x nw p) ∧ fz_ge p (fz_s1 kd ev th x nw p) ∧ fz_mu p ≤ fz_mu (fz_s1 kd ev th x nw p) := by
  unfold fz_s1
  split
  · next z =>
    have hl := (ht.2 x hx).1 (fz_ltn z)
    exact ⟨fz_sp_iv hl hw h, fz_sp_ge h, (fz_sp_mu (by have := ht.1; omega) hw).1⟩
  · exact ⟨h, fz_ge_r p, Nat.le_refl _⟩
theorem fz_s2a {x : Nat} {nw : Nat → Int64} (ht : fz_tg n kd th el) (hx : x < n) (hw : ∀ v, fz_ok (nw v)) (h : fz_iv n p) :
    fz_iv n (fz_s2 kd ev el x nw p) ∧ fz_ge p (fz_s2 kd ev el x nw p) ∧ fz_mu p ≤ fz_mu (fz_s2 kd ev el x nw p) := by
  unfold fz_s2
  split
  · next z =>
    have hl := (ht.2 x hx).2 z.1
    exact ⟨fz_sp_iv hl hw h, fz_sp_ge h, (fz_sp_mu (by have := ht.1; omega) hw).1⟩
  · exact ⟨h, fz_ge_r p, Nat.le_refl _⟩
theorem fz_sta {x : Nat} (ht : fz_tg n kd th el) (hx : x < n) (h : fz_iv n p) :
    fz_iv n (fz_st sz kd ev th el op d a b x p) ∧ fz_ge p (fz_st sz kd ev th el op d a b x p) ∧ fz_mu p ≤ fz_mu (fz_st sz kd ev th el op d a b x p) := by
  unfold fz_st
  split
  · next z =>
    have h1 := fz_s1a (ev := ev) ht hx (fz_enok (sz := sz) (op := op) (d := d) (a := a) (b := b) h z) h
    have h2 := fz_s2a (ev := ev) ht hx (fz_enok (sz := sz) (op := op) (d := d) (a := a) (b := b) h z) h1.1
    exact ⟨h2.1, fz_ge_t h1.2.1 h2.2.1, Nat.le_trans h1.2.2 h2.2.2⟩
  · exact ⟨h, fz_ge_r p, Nat.le_refl _⟩
theorem fz_rda (ht : fz_tg n kd th el) (h : fz_iv n p) : ∀ x, x ≤ n →
    fz_iv n (fz_rd sz kd ev th el op d a b p x) ∧ fz_ge p (fz_rd sz kd ev th el op d a b p x) ∧ fz_mu p ≤ fz_mu (fz_rd sz kd ev th el op d a b p x)
  | 0, _ => ⟨h, fz_ge_r p, Nat.le_refl _⟩
  | x + 1, hx => by
    have h1 := fz_rda ht h x (by omega)
    have h2 := fz_sta (sz := sz) (ev := ev) (op := op) (d := d) (a := a) (b := b) (x := x) ht (by omega) h1.1
    exact ⟨h2.1, fz_ge_t h1.2.1 h2.2.1, Nat.le_trans h1.2.2 h2.2.2⟩
/-- where block 0 alone is OPEN -/
def fz_p0 (n k : Nat) : (Nat → Int64) × (Nat → Bool) := (fun j => if j < 6 ∧ 0 < n then (if j < k then fz_V else 0) else fz_N, fun i => decide (i = 0 ∧ 0 < n))
theorem fz_p0iv (n k : Nat) : fz_iv n (fz_p0 n k) := by
  intro x
  unfold fz_p0
  dsimp only
  constructor
  · intro hx
    have hx := of_decide_eq_true hx
    refine ⟨by omega, fun v hv => ?_⟩
    rw [if_pos (by omega)]
    split
    · exact Or.inl rfl
    · exact Or.inr ⟨0, fz_c0⟩
  · intro hx v hv
    have hx := of_decide_eq_false hx
    rw [if_neg (by omega)]
end
theorem fz_smA (f g : Nat → Nat) : ∀ m, fz_sm (fun j => f j + g j) m = fz_sm f m + fz_sm g m
  | 0 => rfl
  | m + 1 => by
    have h := fz_smA f g m
    show fz_sm (fun j => f j + g j) m + (f m + g m) = (fz_sm f m + f m) + (fz_sm g m + g m)
    omega
theorem fz_smC (p : Nat → Bool) : ∀ m, fa_cn p m = fz_sm (fun i => fz_on (p i)) m
  | 0 => rfl
  | m + 1 => by
    show fa_cn p m + _ = fz_sm (fun i => fz_on (p i)) m + fz_on (p m)
    rw [fz_smC p m]
    rfl
theorem fz_smE {f g : Nat → Nat} : ∀ m, (∀ j, j < m → f j = g j) → fz_sm f m = fz_sm g m
  | 0, _ => rfl
  | m + 1, h => by
    show fz_sm f m + f m = fz_sm g m + g m
    rw [fz_smE m (fun j hj => h j (by omega)), h m (by omega)]
end
section
def fe_E (n : Nat) (kd th el : Nat → Int32) (x z : Nat) : Prop := x < n ∧ ((¬ kd x = 0 ∧ (th x).toNatClampNeg = z) ∨ (kd x = 2 ∧ (el x).toNatClampNeg = z))
def fe_st (n x : Nat) : Prop := x = 0 ∧ 0 < n
def fe_ok (n : Nat) (kd th el : Nat → Int32) : Prop := n ≤ 16 ∧ ∀ x, x < n → (kd x = 0 ∨ kd x = 1 ∨ kd x = 2) ∧ (¬ kd x = 0 → ∃ t, 1 ≤ t ∧ t < n ∧ th x = nI t) ∧ (kd x = 2 → ∃ t, 1 ≤ t ∧ t < n ∧ el x = nI t)
def fe_ev (n : Nat) (kd ev : Nat → Int32) : Prop := ∀ x, x < n → ¬ kd x = 1 → ∃ v, v < 6 ∧ ev x = nI v
def fe_i1 (op d a b : Nat → Int32) (q : Nat) : Prop :=
  (∃ o, o < 8 ∧ op q = nI o ∧ (1 ≤ o → o ≤ 6 → ∃ v, v < 6 ∧ a q = nI v) ∧ (2 ≤ o → o ≤ 6 → ∃ v, v < 6 ∧ b q = nI v)) ∧ ∃ v, v < 6 ∧ d q = nI v
def fe_is (n : Nat) (sz op d a b : Nat → Int32) : Prop := ∀ x, x < n → ∃ s, s ≤ 4 ∧ sz x = nI s ∧ ∀ i, i < s → fe_i1 op d a b (4 * x + i)
/-- what the reference holds of the exits -/
def fe_rl (n : Nat) (kd ev th el us f1 f2 : Nat → Int32) : Prop := ∀ x, x < n → (kd x = 1 → us x = -1) ∧ (¬ kd x = 1 → us x = ev x) ∧ (¬ kd x = 0 → f1 x = th x) ∧ (kd x = 2 → f2 x = el x)
section
variable {n : Nat} {kd ev th el sz op d a b us f1 f2 : Nat → Int32}
theorem fe_El (h : fe_ok n kd th el) {x z : Nat} (e : fe_E n kd th el x z) : z < n := by
  obtain ⟨hx, e⟩ := e
  have h1 := h.2 x hx
  have h0 := h.1
  rcases e with ⟨k, e⟩ | ⟨k, e⟩
  · obtain ⟨t, _, ht, e2⟩ := h1.2.1 k
    rw [e2, nI_clamp (by omega)] at e
    omega
  · obtain ⟨t, _, ht, e2⟩ := h1.2.2 k
    rw [e2, nI_clamp (by omega)] at e
    omega
theorem fe_E16 (h : fe_ok n kd th el) (x z : Nat) (e : fe_E n kd th el x z) : z < 16 := by
  have := fe_El h e
  have := h.1
  omega
theorem fe_st16 (h : fe_ok n kd th el) (x : Nat) (e : fe_st n x) : x < 16 := by
  have := h.1
  have := e.1
  omega
theorem fe_Mn (h : fe_ok n kd th el) {x : Nat} (m : fd_M (fe_E n kd th el) (fe_st n) x) : x < n :=
  fr_lt (fun x e => by have := e.1; have := e.2; omega) (fun _ _ e => fe_El h e) m
theorem fe_E0 {x z : Nat} (hx : x < n) (k : kd x = 0) : ¬ fe_E n kd th el x z := by
  intro e
  rcases e.2 with ⟨k1, _⟩ | ⟨k1, _⟩
  · exact k1 k
  · rw [k] at k1; exact absurd k1 (by decide)
theorem fe_E1 {x z t : Nat} (hx : x < n) (k : kd x = 1) (e : th x = nI t) (ht : t < 16) : fe_E n kd th el x z ↔ z = t := by
  unfold fe_E
  rw [e, nI_clamp (by omega), k]
  constructor
  · rintro ⟨_, ⟨_, e⟩ | ⟨k1, _⟩⟩
    · exact e.symm
    · exact absurd k1 (by decide)
  · intro e
    exact ⟨hx, Or.inl ⟨by decide, e.symm⟩⟩
theorem fe_E2 {x z t t' : Nat} (hx : x < n) (k : kd x = 2) (e : th x = nI t) (ht : t < 16) (e' : el x = nI t') (ht' : t' < 16) : fe_E n kd th el x z ↔ (z = t ∨ z = t') := by
  unfold fe_E
  rw [e, e', nI_clamp (by omega), nI_clamp (by omega), k]
  constructor
  · rintro ⟨_, ⟨_, e⟩ | ⟨_, e⟩⟩
    · exact Or.inl e.symm
    · exact Or.inr e.symm
  · rintro (e | e)
    · exact ⟨hx, Or.inl ⟨by decide, e.symm⟩⟩
    · exact ⟨hx, Or.inr ⟨rfl, e.symm⟩⟩
/-- one block's exits: three cases, with its targets -/
theorem fe_cs (h : fe_ok n kd th el) {x : Nat} (hx : x < n) {P : Prop} (h0 : kd x = 0 → P) (h1 : ∀ t, kd x = 1 → 1 ≤ t → t < n → th x = nI t → P)
    (h2 : ∀ t t', kd x = 2 → 1 ≤ t → t < n → th x = nI t → 1 ≤ t' → t' < n → el x = nI t' → P) : P := by
  have q := h.2 x hx
  rcases q.1 with k | k | k
  · exact h0 k
  · obtain ⟨t, l, r, e⟩ := q.2.1 (by rw [k]; decide)
    exact h1 t k l r e
  · obtain ⟨t, l, r, e⟩ := q.2.1 (by rw [k]; decide)
    obtain ⟨t', l', r', e'⟩ := q.2.2 k
    exact h2 t t' k l r e l' r' e'
end
/-- the variables that an instruction uses -/
def fe_u (op a b : Int32) : Int32 := (if 1 ≤ op ∧ op ≤ 6 then (1 : Int32) <<< (a &&& 31) else 0) ||| (if 2 ≤ op ∧ op ≤ 6 then (1 : Int32) <<< (b &&& 31) else 0)
def fe_m (d : Nat → Int32) (x i : Nat) : Int32 := (1 : Int32) <<< (d (4 * x + i) &&& 31)
def fe_d (d : Nat → Int32) (x i : Nat) : Nat := (d (4 * x + i)).toNatClampNeg
def fe_us (op a b : Nat → Int32) (x i : Nat) : Int32 := fe_u (op (4 * x + i)) (a (4 * x + i)) (b (4 * x + i))
/-- what is wanted before the exit of x -/
def fe_x (kd ev th el : Nat → Int32) (L : Nat → Int32) (x : Nat) : Int32 :=
  ((if kd x = 1 then 0 else (1 : Int32) <<< (ev x &&& 31)) ||| (if kd x = 0 then 0 else L (th x).toNatClampNeg)) ||| (if kd x = 2 then L (el x).toNatClampNeg else 0)
theorem fe_mb {d : Nat → Int32} {x i v : Nat} (h : d (4 * x + i) = nI v) (hv : v < 6) (j : Nat) : bt (fe_m d x i) j = true ↔ j = fe_d d x i := by
  unfold fe_m fe_d
  rw [h, nI_clamp (by omega), fa_sg (by omega), decide_eq_true_iff]
section
variable {n : Nat} {kd ev th el : Nat → Int32}
theorem fe_xb (h : fe_ok n kd th el) (hv : fe_ev n kd ev) {x : Nat} (hx : x < n) (L : Nat → Int32) (i : Nat) :
    bt (fe_x kd ev th el L x) i = true ↔ ((¬ kd x = 1 ∧ i = (ev x).toNatClampNeg) ∨ ∃ y, fe_E n kd th el x y ∧ bt (L y) i = true) := by
  have h0 := h.1
  have hv' := hv x hx
  unfold fe_x
  rw [b_or, b_or, Bool.or_eq_true, Bool.or_eq_true]
  have e1 : bt (if kd x = 1 then 0 else (1 : Int32) <<< (ev x &&& 31)) i = true ↔ (¬ kd x = 1 ∧ i = (ev x).toNatClampNeg) := by
    by_cases k : kd x = 1
    · rw [if_pos k, b_0]
      exact ⟨fun z => absurd z Bool.false_ne_true, fun z => absurd k z.1⟩
    · obtain ⟨v, hv2, e⟩ := hv' k
      rw [if_neg k, e, nI_clamp (by omega), fa_sg (by omega), decide_eq_true_iff]
      exact ⟨fun z => ⟨k, z⟩, fun z => z.2⟩
  rw [e1]
  refine fe_cs h hx (fun k => ?_) (fun t k _ ht e => ?_) (fun t t' k _ ht e _ ht' e' => ?_)
  · rw [if_pos k, if_neg (by rw [k]; decide), b_0]
    constructor
    · rintro ((z | z) | z)
      · exact Or.inl z
      · exact absurd z Bool.false_ne_true
      · exact absurd z Bool.false_ne_true
    · rintro (z | ⟨y, z, _⟩)
      · exact Or.inl (Or.inl z)
      · exact absurd z (fe_E0 hx k)
  · rw [if_neg (by rw [k]; decide), if_neg (by rw [k]; decide), b_0, e, nI_clamp (by omega)]
    constructor
    · rintro ((z | z) | z)
      · exact Or.inl z
      · exact Or.inr ⟨t, (fe_E1 hx k e (by omega)).mpr rfl, z⟩
      · exact absurd z Bool.false_ne_true
    · rintro (z | ⟨y, z, w⟩)
      · exact Or.inl (Or.inl z)
      · rw [(fe_E1 hx k e (by omega)).mp z] at w
        exact Or.inl (Or.inr w)
  · rw [if_neg (by rw [k]; decide), if_pos k, e, e', nI_clamp (by omega), nI_clamp (by omega)]
    constructor
    · rintro ((z | z) | z)
      · exact Or.inl z
      · exact Or.inr ⟨t, (fe_E2 hx k e (by omega) e' (by omega)).mpr (Or.inl rfl), z⟩
      · exact Or.inr ⟨t', (fe_E2 hx k e (by omega) e' (by omega)).mpr (Or.inr rfl), z⟩
    · rintro (z | ⟨y, z, w⟩)
      · exact Or.inl (Or.inl z)
      · rcases (fe_E2 hx k e (by omega) e' (by omega)).mp z with z | z
        · rw [z] at w; exact Or.inl (Or.inr w)
        · rw [z] at w; exact Or.inr w
/-- it grows with what is wanted at the beginnings behind -/
theorem fe_xm (h : fe_ok n kd th el) (hv : fe_ev n kd ev) {x : Nat} (hx : x < n) {L M : Nat → Int32} (hL : ∀ y, fe_E n kd th el x y → fa_sb (L y) (M y)) : fa_sb (fe_x kd ev th el L x) (fe_x kd ev th el M x) := by
  intro i hi
  rw [fe_xb h hv hx] at hi ⊢
  exact hi.imp id (fun ⟨y, e, z⟩ => ⟨y, e, hL y e i z⟩)
end
/-- LIVES: every instruction counts -/
def fe_WA (sz kd ev th el op d a b : Nat → Int32) (L : Nat → Int32) (x : Nat) : Int32 :=
  fw_d (fun i w => fw_g (fe_m d x i) (fe_us op a b x i) w) (fe_x kd ev th el L x) (sz x).toNatClampNeg (sz x).toNatClampNeg
theorem fe_WAm {n : Nat} {sz kd ev th el op d a b : Nat → Int32} (h : fe_ok n kd th el) (hv : fe_ev n kd ev) : fl_mo n (fe_WA sz kd ev th el op d a b) := by
  intro L M hL x hx
  refine fw_mo (fe_xm h hv hx (fun y e => hL y (fe_El h e))) _ (fun i _ z => fw_gm z)
theorem fe_l1 : ∀ o, o < 8 → ((1 : Int32) ≤ nI o ↔ 1 ≤ o) := by decide +kernel
theorem fe_l2 : ∀ o, o < 8 → ((2 : Int32) ≤ nI o ↔ 2 ≤ o) := by decide +kernel
theorem fe_l6 : ∀ o, o < 8 → (nI o ≤ (6 : Int32) ↔ o ≤ 6) := by decide +kernel
theorem fe_ub {o : Nat} (ho : o < 8) {a b : Int32} (ha : 1 ≤ o → o ≤ 6 → ∃ v, v < 6 ∧ a = nI v) (hb : 2 ≤ o → o ≤ 6 → ∃ v, v < 6 ∧ b = nI v) (i : Nat) :
    bt (fe_u (nI o) a b) i = true ↔ ((1 ≤ o ∧ o ≤ 6 ∧ i = a.toNatClampNeg) ∨ (2 ≤ o ∧ o ≤ 6 ∧ i = b.toNatClampNeg)) := by
  unfold fe_u
  rw [sl_or]
  have e1 : bt (if (1 : Int32) ≤ nI o ∧ nI o ≤ 6 then (1 : Int32) <<< (a &&& 31) else 0) i = true ↔ (1 ≤ o ∧ o ≤ 6 ∧ i = a.toNatClampNeg) := by
    by_cases h : 1 ≤ o ∧ o ≤ 6
    · rw [if_pos ⟨(fe_l1 o ho).mpr h.1, (fe_l6 o ho).mpr h.2⟩]
      obtain ⟨v, hv, e⟩ := ha h.1 h.2
      rw [e, sl_sg (by omega), nI_clamp (by omega)]
      exact ⟨fun z => ⟨h.1, h.2, z⟩, fun z => z.2.2⟩
    · rw [if_neg (fun z => h ⟨(fe_l1 o ho).mp z.1, (fe_l6 o ho).mp z.2⟩)]
      exact ⟨fun z => absurd z (sl_no i), fun z => absurd ⟨z.1, z.2.1⟩ h⟩
  have e2 : bt (if (2 : Int32) ≤ nI o ∧ nI o ≤ 6 then (1 : Int32) <<< (b &&& 31) else 0) i = true ↔ (2 ≤ o ∧ o ≤ 6 ∧ i = b.toNatClampNeg) := by
    by_cases h : 2 ≤ o ∧ o ≤ 6
    · rw [if_pos ⟨(fe_l2 o ho).mpr h.1, (fe_l6 o ho).mpr h.2⟩]
      obtain ⟨v, hv, e⟩ := hb h.1 h.2
      rw [e, sl_sg (by omega), nI_clamp (by omega)]
      exact ⟨fun z => ⟨h.1, h.2, z⟩, fun z => z.2.2⟩
    · rw [if_neg (fun z => h ⟨(fe_l2 o ho).mp z.1, (fe_l6 o ho).mp z.2⟩)]
      exact ⟨fun z => absurd z (sl_no i), fun z => absurd ⟨z.1, z.2.1⟩ h⟩
  rw [e1, e2]
/-- one instruction: what it is, with its variables -/
theorem fe_ix {n : Nat} {sz op d a b : Nat → Int32} (h : fe_is n sz op d a b) {x : Nat} (hx : x < n) : ∃ s, s ≤ 4 ∧ sz x = nI s ∧ (sz x).toNatClampNeg = s ∧ ∀ i, i < s → fe_i1 op d a b (4 * x + i) := by
  obtain ⟨s, h1, h2, h3⟩ := h x hx
  exact ⟨s, h1, h2, by rw [h2, nI_clamp (by omega)], h3⟩
end
section
/-- what an instruction sets in a run -/
def fv_v (op a b : Int32) (vs : Nat → Int32) (k A C : Int32) : Int32 :=
  if op = 7 then A + k * C else if op = 0 then a else if op = 1 then vs a.toNatClampNeg else fz_w op (vs a.toNatClampNeg) (vs b.toNatClampNeg)
section
variable (sz kd ev th el op d a b : Nat → Int32) (A C : Int32)
def fv_th (q : Nat) (s : (Nat → Int32) × Int32) : Nat → (Nat → Int32) × Int32
  | 0 => s
  | i + 1 => (upd (fv_th q s i).1 (d (q + i)).toNatClampNeg (fv_v (op (q + i)) (a (q + i)) (b (q + i)) (fv_th q s i).1 (fv_th q s i).2 A C), if op (q + i) = 7 then (fv_th q s i).2 + 1 else (fv_th q s i).2)
/-- through block x -/
def fv_bl (x : Nat) (s : (Nat → Int32) × Int32) : (Nat → Int32) × Int32 := fv_th op d a b A C (4 * x) s (sz x).toNatClampNeg
/-- the block behind x -/
def fv_nx (x : Nat) (vs : Nat → Int32) : Nat := if kd x = 2 ∧ vs (ev x).toNatClampNeg = 0 then (el x).toNatClampNeg else (th x).toNatClampNeg
/-- from the end of block x, g blocks at most may still be begun: the last block, its end's state, how many of the g are left -/
def fv_go : Nat → Nat → (Nat → Int32) × Int32 → Nat × ((Nat → Int32) × Int32) × Nat
  | 0, x, s => (x, s, 0)
  | g + 1, x, s => if kd x = 0 then (x, s, g + 1) else fv_go g (fv_nx kd ev th el x s.1) (fv_bl sz op d a b A C (fv_nx kd ev th el x s.1) s)
end
end
section
/-- what a program is, and what the two sides hold of it -/
def fi_G (n k : Nat) (sz kd ev th el op rs fi se us f1 f2 : Nat → Int32) : Prop :=
  n ≤ 16 ∧ k ≤ 3 ∧ fe_ok n kd th el ∧ fe_ev n kd ev ∧ fe_is n sz op rs fi se ∧ fe_rl n kd ev th el us f1 f2
section
variable {n k : Nat} {sz kd ev th el op rs fi se us f1 f2 : Nat → Int32}
theorem fi_0 : fi_G 0 0 sz kd ev th el op rs fi se us f1 f2 := by
  refine ⟨by omega, by omega, ⟨by omega, ?_⟩, ?_, ?_, ?_⟩
  · intro x hx; exact absurd hx (Nat.not_lt_zero x)
  · intro x hx; exact absurd hx (Nat.not_lt_zero x)
  · intro x hx; exact absurd hx (Nat.not_lt_zero x)
  · intro x hx; exact absurd hx (Nat.not_lt_zero x)
theorem fi_k {k' : Nat} (h : fi_G n k sz kd ev th el op rs fi se us f1 f2) (hk : k' ≤ 3) : fi_G n k' sz kd ev th el op rs fi se us f1 f2 :=
  ⟨h.1, hk, h.2.2⟩
theorem fi_b (h : fi_G n k sz kd ev th el op rs fi se us f1 f2) (hn : n < 16) :
    fi_G (n + 1) k (upd sz n 0) (upd kd n 0) (upd ev n 0) (upd th n 0) (upd el n 0) op rs fi se (upd us n 0) f1 f2 := by
  obtain ⟨_, hk, ⟨_, h1⟩, h2, h3, h4⟩ := h
  refine ⟨by omega, hk, ⟨by omega, ?_⟩, ?_, ?_, ?_⟩
  · intro x hx
    by_cases e : x = n
    · subst e
      rw [pk_us]
      exact ⟨Or.inl rfl, fun z => absurd rfl z, fun z => absurd z (by decide)⟩
    · rw [pk_un e, pk_un e, pk_un e]
      obtain ⟨a1, a2, a3⟩ := h1 x (by omega)
      refine ⟨a1, fun z => ?_, fun z => ?_⟩
      · obtain ⟨t, l, r, q⟩ := a2 z
        exact ⟨t, l, by omega, q⟩
      · obtain ⟨t, l, r, q⟩ := a3 z
        exact ⟨t, l, by omega, q⟩
  · intro x hx
    by_cases e : x = n
    · subst e
      rw [pk_us, pk_us]
      exact fun _ => ⟨0, by omega, rfl⟩
    · rw [pk_un e, pk_un e]
      exact h2 x (by omega)
  · intro x hx
    by_cases e : x = n
    · subst e
      rw [pk_us]
      exact ⟨0, by omega, rfl, fun i hi => absurd hi (Nat.not_lt_zero i)⟩
    · rw [pk_un e]
      exact h3 x (by omega)
  · intro x hx
    by_cases e : x = n
    · subst e
      rw [pk_us, pk_us, pk_us]
      exact ⟨fun z => absurd z (by decide), fun _ => rfl, fun z => absurd rfl z, fun z => absurd z (by decide)⟩
    · rw [pk_un e, pk_un e, pk_un e, pk_un e, pk_un e]
      exact h4 x (by omega)
theorem fi_a (h : fi_G n k sz kd ev th el op rs fi se us f1 f2) {b s : Nat} (hb : b < n) (hs : sz b = nI s) (hs4 : s < 4) {o d a c : Int32}
    (hi : (∃ w, w < 8 ∧ o = nI w ∧ (1 ≤ w → w ≤ 6 → ∃ v, v < 6 ∧ a = nI v) ∧ (2 ≤ w → w ≤ 6 → ∃ v, v < 6 ∧ c = nI v)) ∧ ∃ v, v < 6 ∧ d = nI v) :
    fi_G n k (upd sz b (nI (s + 1))) kd ev th el (upd op (4 * b + s) o) (upd rs (4 * b + s) d) (upd fi (4 * b + s) a) (upd se (4 * b + s) c) us f1 f2 := by
  obtain ⟨h0, hk, h1, h2, h3, h4⟩ := h
  refine ⟨h0, hk, h1, h2, ?_, h4⟩
  intro x hx
  obtain ⟨s', l, e, q⟩ := h3 x hx
  by_cases ex : x = b
  · subst ex
    have es : s' = s := (nI_eq (by omega) (by omega)).mp (e.symm.trans hs)
    subst es
    refine ⟨s' + 1, by omega, by rw [pk_us], fun i hi' => ?_⟩
    by_cases ei : i = s'
    · subst ei
      unfold fe_i1
      rw [pk_us, pk_us, pk_us, pk_us]
      exact hi
    · have ne : ¬ 4 * x + i = 4 * x + s' := by clear hi; omega
      have q' := q i (by clear hi; omega)
      unfold fe_i1 at q' ⊢
      rw [pk_un ne, pk_un ne, pk_un ne, pk_un ne]
      exact q'
  · refine ⟨s', l, by rw [pk_un ex]; exact e, fun i hi' => ?_⟩
    have ne : ¬ 4 * x + i = 4 * b + s := by clear hi; omega
    have q' := q i hi'
    unfold fe_i1 at q' ⊢
    rw [pk_un ne, pk_un ne, pk_un ne, pk_un ne]
    exact q'
theorem fi_x (h : fi_G n k sz kd ev th el op rs fi se us f1 f2) {b : Nat} (hb : b < n) {kk e1 t1 l1 u1 t e : Int32} (hk : kk = 0 ∨ kk = 1 ∨ kk = 2)
    (ht : ¬ kk = 0 → t1 = t ∧ ∃ w, 1 ≤ w ∧ w < n ∧ t = nI w) (he : kk = 2 → l1 = e ∧ ∃ w, 1 ≤ w ∧ w < n ∧ e = nI w)
    (hv : ¬ kk = 1 → u1 = e1 ∧ ∃ w, w < 6 ∧ e1 = nI w) (hu : kk = 1 → u1 = -1) :
    fi_G n k sz (upd kd b kk) (upd ev b e1) (upd th b t1) (upd el b l1) op rs fi se (upd us b u1) (upd f1 b t) (upd f2 b e) := by
  obtain ⟨h0, hk3, h1, h2, h3, h4⟩ := h
  refine ⟨h0, hk3, ⟨h0, ?_⟩, ?_, h3, ?_⟩
  · intro x hx
    by_cases ex : x = b
    · subst ex
      rw [pk_us, pk_us, pk_us]
      refine ⟨hk, fun z => ?_, fun z => ?_⟩
      · obtain ⟨q, w, l, r, y⟩ := ht z
        exact ⟨w, l, r, q.trans y⟩
      · obtain ⟨q, w, l, r, y⟩ := he z
        exact ⟨w, l, r, q.trans y⟩
    · rw [pk_un ex, pk_un ex, pk_un ex]
      exact h1.2 x hx
  · intro x hx
    by_cases ex : x = b
    · subst ex
      rw [pk_us, pk_us]
      exact fun z => (hv z).2
    · rw [pk_un ex, pk_un ex]
      exact h2 x hx
  · intro x hx
    by_cases ex : x = b
    · subst ex
      rw [pk_us, pk_us, pk_us, pk_us, pk_us, pk_us, pk_us]
      exact ⟨hu, fun z => (hv z).1, fun z => (ht z).1.symm, fun z => (he z).1.symm⟩
    · rw [pk_un ex, pk_un ex, pk_un ex, pk_un ex, pk_un ex, pk_un ex, pk_un ex]
      exact h4 x hx
end
/-- the relation: the same program, the same latest run; what either side works with is its own -/
def i_Rel (_ : Nat) (u : SX) (v : SY) : Prop :=
  ∃ (n k : Nat) (lr lb la me ob ot oe it ym : Int32) (sz kd ev th el op rs fi se us f1 f2 dm fr lv va yv nd ru eg yo yw : Nat → Int32) (bg en yg nw : Nat → Int64),
    u = ((nI n), (nI k), me, ob, ot, oe, it, lr, lb, la, sz, kd, ev, th, el, op, rs, fi, se, dm, fr, lv, bg, en, va) ∧ v = ((nI n), (nI k), ym, lr, lb, la, sz, op, rs, fi, se, kd, us, f1, f2, yv, nd, ru, eg, yg, nw, yo, yw) ∧ fi_G n k sz kd ev th el op rs fi se us f1 f2
theorem i_mk {m n k : Nat} {lr lb la me ob ot oe it ym : Int32} {sz kd ev th el op rs fi se us f1 f2 dm fr lv va yv nd ru eg yo yw : Nat → Int32} {bg en yg nw : Nat → Int64}
    (G : fi_G n k sz kd ev th el op rs fi se us f1 f2) : i_Rel m ((nI n), (nI k), me, ob, ot, oe, it, lr, lb, la, sz, kd, ev, th, el, op, rs, fi, se, dm, fr, lv, bg, en, va) ((nI n), (nI k), ym, lr, lb, la, sz, op, rs, fi, se, kd, us, f1, f2, yv, nd, ru, eg, yg, nw, yo, yw) :=
  ⟨n, k, lr, lb, la, me, ob, ot, oe, it, ym, sz, kd, ev, th, el, op, rs, fi, se, us, f1, f2, dm, fr, lv, va, yv, nd, ru, eg, yo, yw, bg, en, yg, nw, rfl, rfl, G⟩
end
section
theorem xs_t {b : Bool} (h : ¬ b = false) : b = true := by
  cases b
  · exact absurd rfl h
  · rfl
theorem xs_has {post : Int32 → Prop} {s : Int32} {i : Nat} (hi : i < 32) (h0 : ¬ bt s i = true → post 0) (h1 : bt s i = true → post 1) : wpX_has post s (nI i) := by
  by_cases z : bt s i = false
  · exact br_t ((fa_t s hi).mpr z) (h0 (by rw [z]; exact Bool.false_ne_true))
  · exact br_f (fun q => z ((fa_t s hi).mp q)) (h1 (xs_t z))
section
variable {n k : Nat} {me ob ot oe it lr lb la : Int32} {sz kd ev th el op rs fi se dm fr lv va : Nat → Int32} {bg en : Nat → Int64}
theorem xs_isB (hn : n ≤ 16) {post : Int32 → Prop} {b : Int32} (h0 : (∀ j, j < n → ¬ b = nI j) → post 0) (h1 : ∀ j, j < n → b = nI j → post 1) : wpX_isBlock post ((nI n), (nI k), me, ob, ot, oe, it, lr, lb, la, sz, kd, ev, th, el, op, rs, fi, se, dm, fr, lv, bg, en, va) b := by
  rcases pk_ix b (n := n) (by omega) with h | h | ⟨j, hj, e⟩
  · refine br_t h (h0 (fun j hj e => ?_))
    rw [e] at h
    exact nI_pos (by omega) h
  · have h2 : ¬ b < 0 := fun z => by
      have := Int32.lt_of_le_of_lt h z
      exact nI_pos (n := n) (by omega) this
    refine br_f h2 (br_t h (h0 (fun j hj e => ?_)))
    rw [e] at h
    exact nI_ge hj (by omega) h
  · subst e
    exact br_f (nI_pos (by omega)) (br_f (nI_ge hj (by omega)) (h1 j hj rfl))
/-- the bits that the exits of block j add -/
theorem xs_e1 {f : Int32} {j t : Nat} (hj : j < n) (k1 : kd j = 1) (e : th j = nI t) (ht : t < 16) {set : Int32} (hs : bt set j = true) (i : Nat) :
    bt (f ||| ((1 : Int32) <<< (nI t &&& 31))) i = true ↔ (bt f i = true ∨ (bt set j = true ∧ (fe_E n kd th el) j i)) := by
  rw [sl_or, sl_sg (by omega), fe_E1 hj k1 e ht]
  exact ⟨fun z => z.imp id (fun y => ⟨hs, y⟩), fun z => z.imp id (fun y => y.2)⟩
theorem xs_e2 {f : Int32} {j t t' : Nat} (hj : j < n) (k1 : kd j = 2) (e : th j = nI t) (ht : t < 16) (e' : el j = nI t') (ht' : t' < 16) {set : Int32} (hs : bt set j = true) (i : Nat) :
    bt ((f ||| ((1 : Int32) <<< (nI t &&& 31))) ||| ((1 : Int32) <<< (nI t' &&& 31))) i = true ↔ (bt f i = true ∨ (bt set j = true ∧ (fe_E n kd th el) j i)) := by
  rw [sl_or, sl_or, sl_sg (by omega), sl_sg (by omega), fe_E2 hj k1 e ht e' ht', or_assoc]
  exact ⟨fun z => z.imp id (fun y => ⟨hs, y⟩), fun z => z.imp id (fun y => y.2)⟩
theorem xs_suc (ok : fe_ok n kd th el) {post : Int32 → Prop} {set : Int32} (hp : ∀ r, (∀ i, bt r i = true ↔ ∃ x, bt set x = true ∧ (fe_E n kd th el) x i) → post r) : wpX_successorsOf post ((nI n), (nI k), me, ob, ot, oe, it, lr, lb, la, sz, kd, ev, th, el, op, rs, fi, se, dm, fr, lv, bg, en, va) set := by
  have hn := ok.1
  have L : ∀ m j f, j ≤ n → n - j < m → sl_in (fun _ => False) (fun x i => bt set x = true ∧ (fe_E n kd th el) x i) j f → wX_successorsOf_4 post set (nI n) (nI k) me ob ot oe it lr lb la sz kd ev th el op rs fi se dm fr lv bg en va m f (nI j) := by
    intro m
    induction m with
    | zero => intro j f _ h; omega
    | succ m ih =>
      intro j f hj hm hi
      by_cases e : j = n
      · subst e
        refine br_t (Int32.le_refl _) (hp f ?_)
        intro i
        rw [sl_e hi (fun x i g => g.2.1)]
        exact ⟨fun z => z.elim False.elim id, Or.inr⟩
      · have hj' : j < n := by omega
        have c : (nI j).toNatClampNeg = j := nI_clamp (by omega)
        have vi : vp_in (nI j) 16 := vp_in_nI (by omega) (by omega)
        refine br_f (nI_ge hj' (by omega)) (xs_has (by omega) (fun z => br_t rfl (nm_r (nI_1 j) ?_)) (fun z => br_f (by decide) ⟨vi, ?_⟩))
        · exact ih (j + 1) f (by omega) (by omega) (sl_n hi (fun i g => z g.1))
        · refine fe_cs ok hj' (fun k0 => ?_) (fun t k1 _ ht e1 => ?_) (fun t t' k2 _ ht e1 _ ht' e2 => ?_)
          · refine br_t (by rw [c]; exact k0) ⟨vi, br_f (by rw [c, k0]; decide) (nm_r (nI_1 j) ?_)⟩
            exact ih (j + 1) f (by omega) (by omega) (sl_n hi (fun i g => fe_E0 hj' k0 g.2))
          · refine br_f (by rw [c, k1]; decide) ⟨vi, ?_⟩
            intro y ey
            rw [c, e1] at ey
            subst ey
            refine ⟨vi, br_f (by rw [c, k1]; decide) (nm_r (nI_1 j) ?_)⟩
            exact ih (j + 1) _ (by omega) (by omega) (sl_1 hi (xs_e1 hj' k1 e1 (by omega) z))
          · refine br_f (by rw [c, k2]; decide) ⟨vi, ?_⟩
            intro y ey
            rw [c, e1] at ey
            subst ey
            refine ⟨vi, br_t (by rw [c]; exact k2) ⟨vi, ?_⟩⟩
            intro y ey
            rw [c, e2] at ey
            subst ey
            refine nm_r (nI_1 j) ?_
            exact ih (j + 1) _ (by omega) (by omega) (sl_1 hi (xs_e2 hj' k2 e1 (by omega) e2 (by omega) z))
  exact ⟨n + 1, L (n + 1) 0 0 (by omega) (by omega) (sl_00 (fun _ z => z))⟩
theorem xs_rea (ok : fe_ok n kd th el) {post : Int32 → Prop} {avs : Int32} {av : Nat → Prop} (ha : ∀ i, bt avs i = true ↔ av i)
    (hp : ∀ r, (∀ i, bt r i = true ↔ fr_R (fe_E n kd th el) (fe_st n) av i) → post r) : wpX_reachedWithout post ((nI n), (nI k), me, ob, ot, oe, it, lr, lb, la, sz, kd, ev, th, el, op, rs, fi, se, dm, fr, lv, bg, en, va) avs := by
  have hn := ok.1
  have hE := fe_E16 ok
  have L : ∀ m j s, j ≤ 16 → 16 - j < m → fr_so (fe_E n kd th el) (fe_st n) av s → fr_sr (fe_st n) av s → (fr_cl (fe_E n kd th el) av s ∨ j ≤ fa_cn (bt s) 16) → wX_reachedWithout_17 post avs (nI n) (nI k) me ob ot oe it lr lb la sz kd ev th el op rs fi se dm fr lv bg en va m s (nI j) := by
    intro m
    induction m with
    | zero => intro j f _ h; omega
    | succ m ih =>
      intro j s hj hm h1 h2 h3
      by_cases e : j = 16
      · subst e
        exact br_t (by decide) (hp s (fr_fi h1 h2 (fr_end hE h3)))
      · refine br_f (nI_ge (b := 16) (by omega) (by decide)) (xs_suc ok (fun r hr => ?_))
        intro y ey
        have hr2 : fr_rd (fe_E n kd th el) av s y := by
          intro i
          rw [ey, sl_or, sl_df, hr i, ha i]
        refine nm_r (nI_1 j) (ih (j + 1) y (by omega) (by omega) (fr_so1 hr2 h1) (fr_sr1 hr2 h2) (fr_rdk hE hr2 h3))
  by_cases e : n = 0
  · subst e
    refine br_t rfl (hp 0 (fun i => ⟨fun z => absurd z (sl_no i), fun z => ?_⟩))
    exact absurd (fr_i (P := fun _ => False) (fun x h _ => absurd h.2 (Nat.lt_irrefl 0)) (fun _ _ _ p _ _ => p) z) id
  · refine br_f (nI_ne0 (by omega) (by omega)) ?_
    intro y ey
    have hy : ∀ i, bt y i = true ↔ (i = 0 ∧ ¬ av i) := by
      intro i
      rw [ey, sl_df, sl_b1, ha i]
    refine ⟨17, L 17 0 y (by omega) (by omega) ?_ ?_ (Or.inr (Nat.zero_le _))⟩
    · intro i hi
      have := (hy i).mp hi
      exact fr_b ⟨this.1, by omega⟩ this.2
    · intro x hx na
      exact (hy x).mpr ⟨hx.1, na⟩
theorem xs_fro (ok : fe_ok n kd th el) {post : Int32 → Prop} {a : Nat} (ha : a < 16) (hp : ∀ r, (∀ i, bt r i = true ↔ ((∃ x, bt (dm a) x = true ∧ (fe_E n kd th el) x i) ∧ ¬ (bt (dm a) i = true ∧ ¬ i = a))) → post r) : wpX_frontierOf post ((nI n), (nI k), me, ob, ot, oe, it, lr, lb, la, sz, kd, ev, th, el, op, rs, fi, se, dm, fr, lv, bg, en, va) (nI a) := by
  have c : (nI a).toNatClampNeg = a := nI_clamp (by omega)
  have vi : vp_in (nI a) 16 := vp_in_nI (by omega) (by omega)
  refine ⟨vi, xs_suc ok (fun r hr => ⟨vi, ?_⟩)⟩
  intro y ey
  apply hp
  intro i
  rw [c] at ey hr
  rw [sl_df, ey, sl_df, sl_sg (by omega), hr i]
end
/-- MET, DOMINATES and the frontiers, as the class holds them -/
def xs_dom (n : Nat) (kd th el : Nat → Int32) (me : Int32) (dm fr : Nat → Int32) : Prop :=
  (∀ i, bt me i = true ↔ fd_M (fe_E n kd th el) (fe_st n) i) ∧ (∀ x, x < 16 → ∀ i, bt (dm x) i = true ↔ fd_D (fe_E n kd th el) (fe_st n) x i) ∧ (∀ x, x < 16 → ∀ i, bt (fr x) i = true ↔ fd_F (fe_E n kd th el) (fe_st n) x i)
section
variable {n k : Nat} {me ob ot oe it lr lb la : Int32} {sz kd ev th el op rs fi se dm fr lv va : Nat → Int32} {bg en : Nat → Int64}
theorem xs_d57 (ok : fe_ok n kd th el) {post : SX → Prop} {J : Int32 → (Nat → Int32) → (Nat → Int32) → (Nat → Int32) → (Nat → Int32) → (Nat → Int32) → (Nat → Int32) → (Nat → Int32) → (Nat → Int32) → (Nat → Int32) → (Nat → Int32) → (Nat → Int32) → (Nat → Int32) → (Nat → Int64) → (Nat → Int64) → (Nat → Int32) → Prop} {a : Nat} (ha : a < 16)
    (hd : ∀ i, bt (dm a) i = true ↔ fd_D (fe_E n kd th el) (fe_st n) a i)
    (hp : ∀ r, (∀ i, bt r i = true ↔ fd_F (fe_E n kd th el) (fe_st n) a i) → J (nI (a + 1)) sz kd ev th el op rs fi se dm (upd fr a r) lv bg en va) : wX_solveDominance_57 post J (nI a) (nI n) (nI k) me ob ot oe it lr lb la sz kd ev th el op rs fi se dm fr lv bg en va := by
  have c : (nI a).toNatClampNeg = a := nI_clamp (by omega)
  have vi : vp_in (nI a) 16 := vp_in_nI (by omega) (by omega)
  refine xs_fro ok ha (fun r hr => ⟨vi, ?_⟩)
  intro y ey
  rw [c] at ey
  subst ey
  refine nm_r (nI_1 a) (hp r (fun i => ?_))
  rw [hr i]
  unfold fd_F
  refine and_congr ⟨fun ⟨x, h1, h2⟩ => ⟨x, (hd x).mp h1, h2⟩, fun ⟨x, h1, h2⟩ => ⟨x, (hd x).mpr h1, h2⟩⟩ (not_congr ?_)
  rw [hd i]
  exact ⟨fun z => ⟨z.2, z.1⟩, fun z => ⟨z.2, z.1⟩⟩
theorem xs_sol (ok : fe_ok n kd th el) {post : SX → Prop} (hp : ∀ me' dm' fr', xs_dom n kd th el me' dm' fr' → post ((nI n), (nI k), me', ob, ot, oe, it, lr, lb, la, sz, kd, ev, th, el, op, rs, fi, se, dm', fr', lv, bg, en, va)) : wpX_solveDominance post ((nI n), (nI k), me, ob, ot, oe, it, lr, lb, la, sz, kd, ev, th, el, op, rs, fi, se, dm, fr, lv, bg, en, va) := by
  unfold wpX_solveDominance
  refine xs_rea ok (av := fun _ => False) (fun i => ⟨fun z => absurd z (sl_no i), False.elim⟩) (fun me' hm => ?_)
  have L : ∀ m a dm' fr', a ≤ 16 → 16 - a < m → (∀ x, x < a → ∀ i, bt (dm' x) i = true ↔ fd_D (fe_E n kd th el) (fe_st n) x i) → (∀ x, x < a → ∀ i, bt (fr' x) i = true ↔ fd_F (fe_E n kd th el) (fe_st n) x i) →
      wX_solveDominance_11 post (nI n) (nI k) me' ob ot oe it lr lb la m (nI a) sz kd ev th el op rs fi se dm' fr' lv bg en va := by
    intro m
    induction m with
    | zero => intro j f _ _ h; omega
    | succ m ih =>
      intro a dm' fr' hj hmm h1 h2
      by_cases e : a = 16
      · subst e
        exact br_t (by decide) (hp me' dm' fr' ⟨hm, h1, h2⟩)
      · have ha : a < 16 := by omega
        have c : (nI a).toNatClampNeg = a := nI_clamp (by omega)
        have vi : vp_in (nI a) 16 := vp_in_nI (by omega) (by omega)
        have key : ∀ w : Int32, (∀ i, bt w i = true ↔ fd_D (fe_E n kd th el) (fe_st n) a i) → ∀ dm2, dm2 = upd (upd dm' a 0) a w ∨ dm2 = upd dm' a w →
            wX_solveDominance_57 post (wX_solveDominance_11 post (nI n) (nI k) me' ob ot oe it lr lb la m) (nI a) (nI n) (nI k) me' ob ot oe it lr lb la sz kd ev th el op rs fi se dm2 fr' lv bg en va := by
          intro w hw dm2 e2
          have e3 : dm2 a = w := by rcases e2 with e2 | e2 <;> rw [e2, pk_us]
          have e4 : ∀ x, x < a → dm2 x = dm' x := by
            intro x hx
            rcases e2 with e2 | e2
            · rw [e2, pk_un (by omega), pk_un (by omega)]
            · rw [e2, pk_un (by omega)]
          refine xs_d57 ok ha (fun i => by rw [e3]; exact hw i) (fun r hr => ?_)
          refine ih (a + 1) dm2 (upd fr' a r) (by omega) (by omega) ?_ ?_
          · intro x hx i
            by_cases ex : x = a
            · subst ex; rw [e3]; exact hw i
            · rw [e4 x (by omega)]; exact h1 x (by omega) i
          · intro x hx i
            by_cases ex : x = a
            · subst ex; rw [pk_us]; exact hr i
            · rw [pk_un ex]; exact h2 x (by omega) i
        refine br_f (nI_ge (b := 16) (by omega) (by decide)) ⟨vi, ?_⟩
        intro y ey
        rw [c] at ey
        subst ey
        refine xs_has (by omega) (fun z => br_t rfl ?_) (fun z => br_f (by decide) ?_)
        · refine key 0 (fun i => ⟨fun q => absurd q (sl_no i), fun q => absurd ((hm a).mpr q.1) z⟩) _ (Or.inr rfl)
        · refine xs_rea ok (av := fun x => x = a) (sl_sg (by omega)) (fun r hr => ⟨vi, ?_⟩)
          intro y ey
          rw [c] at ey
          refine key (me' &&& (r ^^^ (-1))) (fun i => ?_) _ (Or.inl ey)
          rw [sl_df, hm i, hr i]
          exact ⟨fun q => ⟨(hm a).mp z, q.1, q.2⟩, fun q => ⟨q.2.1, q.2.2⟩⟩
  exact ⟨17, L 17 0 dm fr (by omega) (by omega) (fun x hx => absurd hx (Nat.not_lt_zero x)) (fun x hx => absurd hx (Nat.not_lt_zero x))⟩
end
end
section
theorem xs_ix (b i : Nat) : (nI b * 4) + nI i = nI (4 * b + i) := by
  show nI b * nI 4 + nI i = _
  rw [pk_mul, nI_add, Nat.mul_comm]
/-- block x sets v -/
def fe_se (sz rs : Nat → Int32) (x : Nat) (v : Int32) : Prop := ∃ q, q < (sz x).toNatClampNeg ∧ rs (4 * x + q) = v
/-- where v is set: block 0 begins every variable -/
def fe_sc (n : Nat) (sz rs : Nat → Int32) (v : Int32) (x : Nat) : Prop := x = 0 ∨ (x < n ∧ fe_se sz rs x v)
theorem fd_F16 {n : Nat} {kd th el : Nat → Int32} (ok : fe_ok n kd th el) {x i : Nat} (h : fd_F (fe_E n kd th el) (fe_st n) x i) : x < 16 ∧ i < 16 ∧ fd_M (fe_E n kd th el) (fe_st n) x := by
  obtain ⟨⟨y, h1, h2⟩, _⟩ := h
  have h3 := fe_Mn ok h1.1
  have := ok.1
  exact ⟨by omega, fe_E16 ok _ _ h2, h1.1⟩
section
variable {n k : Nat} {me ob ot oe it lr lb la : Int32} {sz kd ev th el op rs fi se dm fr lv va : Nat → Int32} {bg en : Nat → Int64}
theorem xs_par (ok : fe_ok n kd th el) {post : Int32 → SX → Prop} {v1 : Int32} (h0 : (∀ j, j < n → ¬ v1 = nI j) → post (-1) ((nI n), (nI k), me, ob, ot, oe, it, lr, lb, la, sz, kd, ev, th, el, op, rs, fi, se, dm, fr, lv, bg, en, va))
    (h1 : ∀ b, b < n → v1 = nI b → ∀ r me' dm' fr', fd_P (fe_E n kd th el) (fe_st n) b r → post r ((nI n), (nI k), me', ob, ot, oe, it, lr, lb, la, sz, kd, ev, th, el, op, rs, fi, se, dm', fr', lv, bg, en, va)) : wpX_parent post ((nI n), (nI k), me, ob, ot, oe, it, lr, lb, la, sz, kd, ev, th, el, op, rs, fi, se, dm, fr, lv, bg, en, va) v1 := by
  unfold wpX_parent
  have hn := ok.1
  refine xs_isB hn (fun z => br_t rfl (h0 z)) (fun b hb e => br_f (by decide) ?_)
  refine xs_sol ok (fun me' dm' fr' hd => ?_)
  obtain ⟨hm, hD, hF⟩ := hd
  have cb : (nI b).toNatClampNeg = b := nI_clamp (by omega)
  have L : ∀ m a (r : Int32), a ≤ 16 → 16 - a < m →
      ((r = -1 ∧ ∀ x, x < a → ¬ x = b → ¬ fd_D (fe_E n kd th el) (fe_st n) x b) ∨ (∃ c, c < 16 ∧ r = nI c ∧ ¬ c = b ∧ fd_D (fe_E n kd th el) (fe_st n) c b ∧ ∀ x, x < a → ¬ x = b → fd_D (fe_E n kd th el) (fe_st n) x b → fd_D (fe_E n kd th el) (fe_st n) x c)) →
      wX_parent_18 post (nI b) (nI n) (nI k) me' ob ot oe it lr lb la sz kd ev th el op rs fi se dm' fr' lv bg en va m r (nI a) := by
    intro m
    induction m with
    | zero => intro j f _ h; omega
    | succ m ih =>
      intro a r hj hmm hi
      by_cases ea : a = 16
      · subst ea
        refine br_t (by decide) (h1 b hb e r me' dm' fr' ?_)
        have hlt : ∀ x, fd_D (fe_E n kd th el) (fe_st n) x b → x < 16 := fun x hx => by
          have := fe_Mn ok hx.1
          omega
        rcases hi with ⟨q, w⟩ | ⟨c, _, q, nc, dc, w⟩
        · exact Or.inl ⟨q, fun x nx hx => w x (hlt x hx) nx hx⟩
        · exact Or.inr ⟨c, q, nc, dc, fun x nx hx => w x (hlt x hx) nx hx⟩
      · have ha : a < 16 := by omega
        have c : (nI a).toNatClampNeg = a := nI_clamp (by omega)
        have vi : vp_in (nI a) 16 := vp_in_nI (by omega) (by omega)
        refine br_f (nI_ge (b := 16) (by omega) (by decide)) ?_
        by_cases eb : a = b
        · refine br_t (by rw [eb]) (nm_r (nI_1 a) (ih (a + 1) r (by omega) (by omega) ?_))
          rcases hi with ⟨q, w⟩ | ⟨d, ld, q, nc, dc, w⟩
          · exact Or.inl ⟨q, fun x hx nx => w x (by omega) nx⟩
          · exact Or.inr ⟨d, ld, q, nc, dc, fun x hx nx => w x (by omega) nx⟩
        · refine br_f (fun z => eb ((nI_eq (by omega) (by omega)).mp z)) ⟨vi, xs_has (by omega) (fun z => br_t rfl (nm_r (nI_1 a) (ih (a + 1) r (by omega) (by omega) ?_))) (fun z => br_f (by decide) ?_)⟩
          · rw [c, hD a ha] at z
            rcases hi with ⟨q, w⟩ | ⟨d, ld, q, nc, dc, w⟩
            · refine Or.inl ⟨q, fun x hx nx => ?_⟩
              by_cases ex : x = a
              · rw [ex]; exact z
              · exact w x (by omega) nx
            · refine Or.inr ⟨d, ld, q, nc, dc, fun x hx nx hxb => ?_⟩
              by_cases ex : x = a
              · rw [ex] at hxb; exact absurd hxb z
              · exact w x (by omega) nx hxb
          · rw [c, hD a ha] at z
            have new : (∀ x, x < a → ¬ x = b → fd_D (fe_E n kd th el) (fe_st n) x b → fd_D (fe_E n kd th el) (fe_st n) x a) → wX_parent_18 post (nI b) (nI n) (nI k) me' ob ot oe it lr lb la sz kd ev th el op rs fi se dm' fr' lv bg en va m (nI a) (nI (a + 1)) := by
              intro w
              refine ih (a + 1) (nI a) (by omega) (by omega) (Or.inr ⟨a, ha, rfl, eb, z, fun x hx nx hxb => ?_⟩)
              by_cases ex : x = a
              · rw [ex]; exact fd_rf z.1
              · exact w x (by omega) nx hxb
            rcases hi with ⟨q, w⟩ | ⟨d, ld, q, nc, dc, w⟩
            · refine br_t (by rw [q]; decide) (nm_r (nI_1 a) (new (fun x hx nx hxb => absurd hxb (w x hx nx))))
            · subst q
              have cd : (nI d).toNatClampNeg = d := nI_clamp (by omega)
              refine br_f (nI_pos (by omega)) ⟨vp_in_nI ld (by omega), xs_has (by omega) (fun y => br_t rfl (nm_r (nI_1 a) ?_)) (fun y => br_f (by decide) (nm_r (nI_1 a) ?_))⟩
              · rw [cd, hD d ld] at y
                refine ih (a + 1) (nI d) (by omega) (by omega) (Or.inr ⟨d, ld, rfl, nc, dc, fun x hx nx hxb => ?_⟩)
                by_cases ex : x = a
                · rw [ex]
                  exact (fd_li z dc).resolve_right y
                · exact w x (by omega) nx hxb
              · rw [cd, hD d ld] at y
                exact new (fun x hx nx hxb => fd_tr (w x hx nx hxb) y)
  rw [e]
  exact ⟨17, L 17 0 (-1) (by omega) (by omega) (Or.inl ⟨rfl, fun x hx => absurd hx (Nat.not_lt_zero x)⟩)⟩
theorem xs_dms (ok : fe_ok n kd th el) {post : Int32 → SX → Prop} {v1 v2 : Int32} (h0 : ∀ me' dm' fr', ¬ (∃ a b, a < n ∧ b < n ∧ v1 = nI a ∧ v2 = nI b ∧ fd_D (fe_E n kd th el) (fe_st n) a b) → post 0 ((nI n), (nI k), me', ob, ot, oe, it, lr, lb, la, sz, kd, ev, th, el, op, rs, fi, se, dm', fr', lv, bg, en, va))
    (h1 : ∀ me' dm' fr', (∃ a b, a < n ∧ b < n ∧ v1 = nI a ∧ v2 = nI b ∧ fd_D (fe_E n kd th el) (fe_st n) a b) → post 1 ((nI n), (nI k), me', ob, ot, oe, it, lr, lb, la, sz, kd, ev, th, el, op, rs, fi, se, dm', fr', lv, bg, en, va)) : wpX_dominates post ((nI n), (nI k), me, ob, ot, oe, it, lr, lb, la, sz, kd, ev, th, el, op, rs, fi, se, dm, fr, lv, bg, en, va) v1 v2 := by
  unfold wpX_dominates
  have hn := ok.1
  refine xs_isB hn (fun z => br_t rfl (h0 me dm fr (fun ⟨a, b, hla, hlb, ea, eb, _⟩ => z a hla ea))) (fun a hla ea => br_f (by decide) ?_)
  refine xs_isB hn (fun z => br_t rfl (h0 me dm fr (fun ⟨a, b, hla, hlb, ea, eb, _⟩ => z b hlb eb))) (fun b hlb eb => br_f (by decide) ?_)
  refine xs_sol ok (fun me' dm' fr' hd => ?_)
  subst ea
  subst eb
  have c : (nI a).toNatClampNeg = a := nI_clamp (by omega)
  refine ⟨vp_in_nI (by omega) (by omega), xs_has (by omega) (fun z => ⟨rfl, h0 me' dm' fr' (fun ⟨a', b', hla', hlb', ea', eb', q⟩ => z ?_)⟩) (fun z => ⟨rfl, h1 me' dm' fr' ⟨a, b, hla, hlb, rfl, rfl, ?_⟩⟩)⟩
  · rw [c, hd.2.1 a (by omega)]
    rw [(nI_eq (by omega) (by omega)).mp ea', (nI_eq (by omega) (by omega)).mp eb']
    exact q
  · rw [c, hd.2.1 a (by omega)] at z
    exact z
theorem xs_frt (ok : fe_ok n kd th el) {post : Int32 → SX → Prop} {v1 : Int32} (h1 : ∀ r me' dm' fr', (∀ i, bt r i = true ↔ ∃ a, a < n ∧ v1 = nI a ∧ fd_F (fe_E n kd th el) (fe_st n) a i) → post r ((nI n), (nI k), me', ob, ot, oe, it, lr, lb, la, sz, kd, ev, th, el, op, rs, fi, se, dm', fr', lv, bg, en, va)) : wpX_frontier post ((nI n), (nI k), me, ob, ot, oe, it, lr, lb, la, sz, kd, ev, th, el, op, rs, fi, se, dm, fr, lv, bg, en, va) v1 := by
  unfold wpX_frontier
  have hn := ok.1
  refine xs_isB hn (fun z => br_t rfl (h1 0 me dm fr (fun i => ⟨fun q => absurd q (sl_no i), fun ⟨a, hla, ea, _⟩ => absurd ea (z a hla)⟩))) (fun a hla ea => br_f (by decide) ?_)
  refine xs_sol ok (fun me' dm' fr' hd => ?_)
  subst ea
  have c : (nI a).toNatClampNeg = a := nI_clamp (by omega)
  refine ⟨vp_in_nI (by omega) (by omega), h1 _ me' dm' fr' (fun i => ?_)⟩
  rw [c, hd.2.2 a (by omega) i]
  refine ⟨fun q => ⟨a, hla, rfl, q⟩, fun ⟨a', hla', e', q⟩ => ?_⟩
  rw [(nI_eq (by omega) (by omega)).mp e']
  exact q
theorem xs_set (ok : fe_ok n kd th el) (is : fe_is n sz op rs fi se) {post : Int32 → Prop} {v : Int32} (hp : ∀ r, (∀ i, bt r i = true ↔ (i < n ∧ fe_se sz rs i v)) → post r) : wpX_settersOf post ((nI n), (nI k), me, ob, ot, oe, it, lr, lb, la, sz, kd, ev, th, el, op, rs, fi, se, dm, fr, lv, bg, en, va) v := by
  have hn := ok.1
  have L2 : ∀ (J : Int32 → Int32 → Prop) (b s : Nat) (f0 : Int32), b < n → s ≤ 4 → sz b = nI s → (∀ f, (∀ i, bt f i = true ↔ (bt f0 i = true ∨ (i = b ∧ fe_se sz rs b v))) → J f (nI (b + 1))) →
      ∀ m q f, q ≤ s → s - q < m → sl_in (fun i => bt f0 i = true) (fun q i => i = b ∧ rs (4 * b + q) = v) q f → wX_settersOf_15 post J v (nI b) (nI n) (nI k) me ob ot oe it lr lb la sz kd ev th el op rs fi se dm fr lv bg en va m f (nI q) := by
    intro J b s f0 hb hs es hJ m
    have cb : (nI b).toNatClampNeg = b := nI_clamp (by omega)
    have vb : vp_in (nI b) 16 := vp_in_nI (by omega) (by omega)
    induction m with
    | zero => intro j f _ h; omega
    | succ m ih =>
      intro q f hq hm hi
      by_cases eq : q = s
      · subst eq
        refine ⟨vb, br_t (by rw [cb, es]; exact Int32.le_refl _) (nm_r (nI_1 b) (hJ f (fun i => ?_)))⟩
        rw [hi i]
        refine or_congr Iff.rfl ⟨fun ⟨x, hx, g1, g2⟩ => ⟨g1, x, by rw [es, nI_clamp (by omega)]; exact hx, g2⟩, fun ⟨g1, x, hx, g2⟩ => ⟨x, ?_, g1, g2⟩⟩
        rw [es, nI_clamp (by omega)] at hx
        exact hx
      · have e4 := xs_ix b q
        have c4 : (nI (4 * b + q)).toNatClampNeg = 4 * b + q := nI_clamp (by omega)
        refine ⟨vb, br_f (by rw [cb, es]; exact nI_ge (by omega) (by omega)) ⟨by rw [e4]; exact vp_in_nI (by omega) (by omega), ?_⟩⟩
        by_cases z : rs (4 * b + q) = v
        · refine br_t (by rw [e4, c4]; exact z) ?_
          intro y ey
          refine nm_r (nI_1 q) (ih (q + 1) y (by omega) (by omega) (sl_1 hi (fun i => ?_)))
          rw [ey, sl_or, sl_sg (by omega)]
          exact or_congr Iff.rfl ⟨fun g => ⟨g, z⟩, fun g => g.1⟩
        · refine br_f (by rw [e4, c4]; exact z) (nm_r (nI_1 q) (ih (q + 1) f (by omega) (by omega) (sl_n hi (fun i g => z g.2))))
  have L : ∀ m j f, j ≤ n → n - j < m → sl_in (fun _ => False) (fun x i => i = x ∧ (x < n ∧ fe_se sz rs x v)) j f → wX_settersOf_4 post v (nI n) (nI k) me ob ot oe it lr lb la sz kd ev th el op rs fi se dm fr lv bg en va m f (nI j) := by
    intro m
    induction m with
    | zero => intro j f _ h; omega
    | succ m ih =>
      intro j f hj hm hi
      by_cases e : j = n
      · subst e
        refine br_t (Int32.le_refl _) (hp f (fun i => ?_))
        rw [sl_e hi (fun x i g => g.2.1)]
        exact ⟨fun z => z.elim False.elim (fun ⟨x, g1, g2⟩ => by rw [g1]; exact g2), fun z => Or.inr ⟨i, rfl, z⟩⟩
      · obtain ⟨s, hs, es, _⟩ := is j (by omega)
        refine br_f (nI_ge (by omega) (by omega)) ⟨s + 1, L2 _ j s f (by omega) hs es (fun f' hf => ?_) (s + 1) 0 f (by omega) (by omega) (sl_0 (fun i => Iff.rfl))⟩
        refine ih (j + 1) f' (by omega) (by omega) (sl_1 hi (fun i => ?_))
        rw [hf i]
        exact or_congr Iff.rfl ⟨fun g => ⟨g.1, by omega, g.2⟩, fun g => ⟨g.1, g.2.2⟩⟩
  exact ⟨n + 1, L (n + 1) 0 0 (by omega) (by omega) (sl_00 (fun _ z => z))⟩
theorem xs_fof (ok : fe_ok n kd th el) (hd : xs_dom n kd th el me dm fr) {post : Int32 → Prop} {set : Int32} (hp : ∀ r, (∀ i, bt r i = true ↔ ∃ x, bt set x = true ∧ fd_F (fe_E n kd th el) (fe_st n) x i) → post r) : wpX_frontiersOf post ((nI n), (nI k), me, ob, ot, oe, it, lr, lb, la, sz, kd, ev, th, el, op, rs, fi, se, dm, fr, lv, bg, en, va) set := by
  have L : ∀ m j f, j ≤ 16 → 16 - j < m → sl_in (fun _ => False) (fun x i => bt set x = true ∧ fd_F (fe_E n kd th el) (fe_st n) x i) j f → wX_frontiersOf_4 post set (nI n) (nI k) me ob ot oe it lr lb la sz kd ev th el op rs fi se dm fr lv bg en va m f (nI j) := by
    intro m
    induction m with
    | zero => intro j f _ h; omega
    | succ m ih =>
      intro j f hj hm hi
      by_cases e : j = 16
      · subst e
        refine br_t (by decide) (hp f (fun i => ?_))
        rw [sl_e hi (fun x i g => (fd_F16 ok g.2).1)]
        exact ⟨fun z => z.elim False.elim id, Or.inr⟩
      · have c : (nI j).toNatClampNeg = j := nI_clamp (by omega)
        refine br_f (nI_ge (b := 16) (by omega) (by decide)) (xs_has (by omega) (fun z => br_t rfl (nm_r (nI_1 j) (ih (j + 1) f (by omega) (by omega) (sl_n hi (fun i g => z g.1))))) (fun z => br_f (by decide) ⟨vp_in_nI (by omega) (by omega), ?_⟩))
        intro y ey
        rw [c] at ey
        refine nm_r (nI_1 j) (ih (j + 1) y (by omega) (by omega) (sl_1 hi (fun i => ?_)))
        rw [ey, sl_or, hd.2.2 j (by omega) i]
        exact or_congr Iff.rfl ⟨fun g => ⟨z, g⟩, fun g => g.2⟩
  exact ⟨17, L 17 0 0 (by omega) (by omega) (sl_00 (fun _ z => z))⟩
theorem xs_mp (ok : fe_ok n kd th el) (is : fe_is n sz op rs fi se) (hd : xs_dom n kd th el me dm fr) {post : Int32 → Prop} {v : Int32} (hp : ∀ r, (∀ i, bt r i = true ↔ fd_G (fe_E n kd th el) (fe_st n) (fe_sc n sz rs v) i) → post r) : wpX_mergePlaces post ((nI n), (nI k), me, ob, ot, oe, it, lr, lb, la, sz, kd, ev, th, el, op, rs, fi, se, dm, fr, lv, bg, en, va) v := by
  unfold wpX_mergePlaces
  refine xs_set ok is (fun s hs => ?_)
  intro src esrc
  have hsrc : ∀ x, bt src x = true ↔ (fd_M (fe_E n kd th el) (fe_st n) x ∧ fe_sc n sz rs v x) := by
    intro x
    rw [esrc, sl_an, sl_or, sl_b1, hs x, hd.1 x]
    exact and_congr Iff.rfl ⟨fun z => z.elim Or.inr Or.inl, fun z => z.elim Or.inr Or.inl⟩
  have hS : ∀ z, (∃ x, bt src x = true ∧ fd_F (fe_E n kd th el) (fe_st n) x z) → z < 16 := fun z ⟨x, _, h⟩ => (fd_F16 ok h).2.1
  have hE : ∀ x z, fd_F (fe_E n kd th el) (fe_st n) x z → z < 16 := fun x z h => (fd_F16 ok h).2.1
  have L : ∀ m j p, j ≤ 16 → 16 - j < m → fg_in (fd_F (fe_E n kd th el) (fe_st n)) (fun z => ∃ x, bt src x = true ∧ fd_F (fe_E n kd th el) (fe_st n) x z) j p → wX_mergePlaces_21 post src (nI n) (nI k) me ob ot oe it lr lb la sz kd ev th el op rs fi se dm fr lv bg en va m p (nI j) := by
    intro m
    induction m with
    | zero => intro j f _ h; omega
    | succ m ih =>
      intro j p hj hm hi
      by_cases e : j = 16
      · subst e
        refine br_t (by decide) (hp p (fun i => ?_))
        rw [fg_e hS hE hi i]
        exact fd_Ge (s1 := fun x => bt src x = true) (fun x mx => ⟨fun z => ((hsrc x).mp z).2, fun z => (hsrc x).mpr ⟨mx, z⟩⟩)
      · refine br_f (nI_ge (b := 16) (by omega) (by decide)) (xs_fof ok hd (fun r hr => nm_r (nI_1 j) (ih (j + 1) r (by omega) (by omega) (fg_1 hS hE hi (fun i => ?_)))))
        rw [hr i]
        constructor
        · rintro ⟨x, hx, f⟩
          rcases (sl_or _ _ _).mp hx with q | q
          · exact Or.inl ⟨x, q, f⟩
          · exact Or.inr ⟨x, q, f⟩
        · rintro (⟨x, q, f⟩ | ⟨x, q, f⟩)
          · exact ⟨x, (sl_or _ _ _).mpr (Or.inl q), f⟩
          · exact ⟨x, (sl_or _ _ _).mpr (Or.inr q), f⟩
  exact ⟨17, L 17 0 0 (by omega) (by omega) fg_0⟩
theorem xs_mer (ok : fe_ok n kd th el) (is : fe_is n sz op rs fi se) {post : Int32 → SX → Prop} {v1 : Int32}
    (h1 : ∀ r me' dm' fr', (∀ i, bt r i = true ↔ (i < 6 ∧ ∃ b, b < n ∧ v1 = nI b ∧ fd_G (fe_E n kd th el) (fe_st n) (fe_sc n sz rs (nI i)) b)) → post r ((nI n), (nI k), me', ob, ot, oe, it, lr, lb, la, sz, kd, ev, th, el, op, rs, fi, se, dm', fr', lv, bg, en, va)) : wpX_merges post ((nI n), (nI k), me, ob, ot, oe, it, lr, lb, la, sz, kd, ev, th, el, op, rs, fi, se, dm, fr, lv, bg, en, va) v1 := by
  unfold wpX_merges
  have hn := ok.1
  refine xs_isB hn (fun z => br_t rfl (h1 0 me dm fr (fun i => ⟨fun q => absurd q (sl_no i), fun ⟨_, a, hla, ea, _⟩ => absurd ea (z a hla)⟩))) (fun b hlb eb => br_f (by decide) ?_)
  refine xs_sol ok (fun me' dm' fr' hd => ?_)
  subst eb
  have L : ∀ m j f, j ≤ 6 → 6 - j < m → sl_in (fun _ => False) (fun v i => i = v ∧ (v < 6 ∧ fd_G (fe_E n kd th el) (fe_st n) (fe_sc n sz rs (nI v)) b)) j f → wX_merges_18 post (nI b) (nI n) (nI k) me' ob ot oe it lr lb la sz kd ev th el op rs fi se dm' fr' lv bg en va m f (nI j) := by
    intro m
    induction m with
    | zero => intro j f _ h; omega
    | succ m ih =>
      intro j f hj hm hi
      by_cases e : j = 6
      · subst e
        refine br_t (by decide) (h1 f me' dm' fr' (fun i => ?_))
        rw [sl_e hi (fun x i g => g.2.1)]
        constructor
        · rintro (z | ⟨x, g1, g2, g3⟩)
          · exact z.elim
          · rw [g1]
            exact ⟨g2, b, hlb, rfl, g3⟩
        · rintro ⟨g2, b', hlb', e', g3⟩
          rw [← (nI_eq (by omega) (by omega)).mp e'] at g3
          exact Or.inr ⟨i, rfl, g2, g3⟩
      · refine br_f (nI_ge (b := 6) (by omega) (by decide)) (xs_mp ok is hd (fun r hr => xs_has (by omega) (fun z => br_t rfl (nm_r (nI_1 j) (ih (j + 1) f (by omega) (by omega) (sl_n hi (fun i g => z ((hr b).mpr g.2.2)))))) (fun z => br_f (by decide) ?_)))
        intro y ey
        refine nm_r (nI_1 j) (ih (j + 1) y (by omega) (by omega) (sl_1 hi (fun i => ?_)))
        rw [ey, sl_or, sl_sg (by omega)]
        exact or_congr Iff.rfl ⟨fun g => ⟨g, by omega, (hr b).mp z⟩, fun g => g.1⟩
  exact ⟨7, L 7 0 0 (by omega) (by omega) (sl_00 (fun _ z => z))⟩
theorem xs_pre (ok : fe_ok n kd th el) {post : Int32 → Prop} {set : Int32} (hp : ∀ r, (∀ i, bt r i = true ↔ ∃ z, bt set z = true ∧ (fe_E n kd th el) i z) → post r) : wpX_predecessorsOf post ((nI n), (nI k), me, ob, ot, oe, it, lr, lb, la, sz, kd, ev, th, el, op, rs, fi, se, dm, fr, lv, bg, en, va) set := by
  have hn := ok.1
  have L : ∀ m j f, j ≤ n → n - j < m → sl_in (fun _ => False) (fun x i => i = x ∧ ∃ z, bt set z = true ∧ (fe_E n kd th el) x z) j f → wX_predecessorsOf_4 post set (nI n) (nI k) me ob ot oe it lr lb la sz kd ev th el op rs fi se dm fr lv bg en va m f (nI j) := by
    intro m
    induction m with
    | zero => intro j f _ h; omega
    | succ m ih =>
      intro j f hj hm hi
      by_cases e : j = n
      · subst e
        refine br_t (Int32.le_refl _) (hp f (fun i => ?_))
        rw [sl_e hi (fun x i ⟨_, z, _, g⟩ => g.1)]
        exact ⟨fun z => z.elim False.elim (fun ⟨x, g1, g2⟩ => by rw [g1]; exact g2), fun z => Or.inr ⟨i, rfl, z⟩⟩
      · refine br_f (nI_ge (by omega) (by omega)) (xs_suc ok (fun r hr => ?_))
        have hr2 : ∀ z, bt r z = true ↔ (fe_E n kd th el) j z := by
          intro z
          rw [hr z]
          refine ⟨fun ⟨x, h1, h2⟩ => ?_, fun h => ⟨j, (sl_sg (by omega) j).mpr rfl, h⟩⟩
          rw [(sl_sg (by omega) x).mp h1] at h2
          exact h2
        by_cases q : ∃ z, bt r z = true ∧ bt set z = true
        · refine br_f (fun z => (sl_me r set).mp z q) ?_
          intro y ey
          refine nm_r (nI_1 j) (ih (j + 1) y (by omega) (by omega) (sl_1 hi (fun i => ?_)))
          rw [ey, sl_or, sl_sg (by omega)]
          refine or_congr Iff.rfl ⟨fun g => ⟨g, ?_⟩, fun g => g.1⟩
          obtain ⟨z, z1, z2⟩ := q
          exact ⟨z, z2, (hr2 z).mp z1⟩
        · refine br_t ((sl_me r set).mpr q) (nm_r (nI_1 j) (ih (j + 1) f (by omega) (by omega) (sl_n hi (fun i g => ?_))))
          obtain ⟨_, z, z1, z2⟩ := g
          exact q ⟨z, (hr2 z).mpr z2, z1⟩
  exact ⟨n + 1, L (n + 1) 0 0 (by omega) (by omega) (sl_00 (fun _ z => z))⟩
theorem xs_lof (ok : fe_ok n kd th el) (hd : xs_dom n kd th el me dm fr) {post : Int32 → Prop} {h : Nat} (hh : h < 16) (hp : ∀ r, (∀ i, bt r i = true ↔ fd_L (fe_E n kd th el) (fe_st n) h i) → post r) : wpX_loopOf post ((nI n), (nI k), me, ob, ot, oe, it, lr, lb, la, sz, kd, ev, th, el, op, rs, fi, se, dm, fr, lv, bg, en, va) (nI h) := by
  have hn := ok.1
  have c : (nI h).toNatClampNeg = h := nI_clamp (by omega)
  intro hb ehb
  have hbb : ∀ i, bt hb i = true ↔ i = h := by intro i; rw [ehb]; exact sl_sg (by omega) i
  refine xs_pre ok (fun r hr => ⟨vp_in_nI hh (by omega), ?_⟩)
  intro cl ecl
  have hcl : ∀ i, bt cl i = true ↔ fd_T (fe_E n kd th el) (fe_st n) h i := by
    intro i
    rw [ecl, c, sl_an, hr i, hd.2.1 h hh i]
    refine and_congr ⟨fun ⟨z, z1, z2⟩ => ?_, fun z => ⟨h, (hbb h).mpr rfl, z⟩⟩ Iff.rfl
    rw [(hbb z).mp z1] at z2
    exact z2
  have hE : ∀ z x, ((fe_E n kd th el) x z ∧ fd_M (fe_E n kd th el) (fe_st n) x) → x < 16 := fun z x q => by
    have := fe_Mn ok q.2
    omega
  have L : ∀ m j s, j ≤ 16 → 16 - j < m → (∃ x, fd_T (fe_E n kd th el) (fe_st n) h x) → fr_so (fun z x => (fe_E n kd th el) x z ∧ fd_M (fe_E n kd th el) (fe_st n) x) (fd_T (fe_E n kd th el) (fe_st n) h) (fun x => x = h) s → fr_sr (fd_T (fe_E n kd th el) (fe_st n) h) (fun x => x = h) s →
      (fr_cl (fun z x => (fe_E n kd th el) x z ∧ fd_M (fe_E n kd th el) (fe_st n) x) (fun x => x = h) s ∨ j ≤ fa_cn (bt s) 16) → wX_loopOf_33 post hb (nI n) (nI k) me ob ot oe it lr lb la sz kd ev th el op rs fi se dm fr lv bg en va m s (nI j) := by
    intro m
    induction m with
    | zero => intro j f _ h; omega
    | succ m ih =>
      intro j s hj hm h0 h1 h2 h3
      by_cases e : j = 16
      · subst e
        refine br_t (by decide) (hp _ (fun i => ?_))
        rw [sl_or, hbb i, fr_fi h1 h2 (fr_end hE h3) i]
        exact ⟨fun z => ⟨h0, z.elim Or.inr Or.inl⟩, fun z => z.2.elim Or.inr Or.inl⟩
      · refine br_f (nI_ge (b := 16) (by omega) (by decide)) (xs_pre ok (fun r hr => ?_))
        intro y ey
        have hr2 : fr_rd (fun z x => (fe_E n kd th el) x z ∧ fd_M (fe_E n kd th el) (fe_st n) x) (fun x => x = h) s y := by
          intro i
          rw [ey, sl_or, sl_df, sl_an, hr i, hd.1 i, hbb i]
          exact or_congr Iff.rfl (and_congr ⟨fun ⟨⟨z, z1, z2⟩, z3⟩ => ⟨z, z1, z2, z3⟩, fun ⟨z, z1, z2, z3⟩ => ⟨⟨z, z1, z2⟩, z3⟩⟩ Iff.rfl)
        exact nm_r (nI_1 j) (ih (j + 1) y (by omega) (by omega) h0 (fr_so1 hr2 h1) (fr_sr1 hr2 h2) (fr_rdk hE hr2 h3))
  by_cases q : ∃ i, bt cl i = true
  · refine br_f (fun z => (sl_z cl).mp z q) ?_
    intro y ey
    have hy : ∀ i, bt y i = true ↔ (fd_T (fe_E n kd th el) (fe_st n) h i ∧ ¬ i = h) := by
      intro i
      rw [ey, sl_df, hcl i, hbb i]
    refine ⟨17, L 17 0 y (by omega) (by omega) ?_ ?_ ?_ (Or.inr (Nat.zero_le _))⟩
    · obtain ⟨i, hi⟩ := q
      exact ⟨i, (hcl i).mp hi⟩
    · intro i hi
      have := (hy i).mp hi
      exact fr_b this.1 this.2
    · intro x hx na
      exact (hy x).mpr ⟨hx, na⟩
  · refine br_t ((sl_z cl).mpr q) (hp 0 (fun i => ⟨fun z => absurd z (sl_no i), fun z => ?_⟩))
    obtain ⟨⟨x, hx⟩, _⟩ := z
    exact absurd ⟨x, (hcl x).mpr hx⟩ q
theorem xs_dep (ok : fe_ok n kd th el) {post : Int32 → SX → Prop} {v1 : Int32} (h0 : (∀ j, j < n → ¬ v1 = nI j) → post (-1) ((nI n), (nI k), me, ob, ot, oe, it, lr, lb, la, sz, kd, ev, th, el, op, rs, fi, se, dm, fr, lv, bg, en, va))
    (h1 : ∀ b, b < n → v1 = nI b → ∀ me' dm' fr', post (nI (fa_cn (fa_pc (fun h => fd_L (fe_E n kd th el) (fe_st n) h b)) 16)) ((nI n), (nI k), me', ob, ot, oe, it, lr, lb, la, sz, kd, ev, th, el, op, rs, fi, se, dm', fr', lv, bg, en, va)) : wpX_depth post ((nI n), (nI k), me, ob, ot, oe, it, lr, lb, la, sz, kd, ev, th, el, op, rs, fi, se, dm, fr, lv, bg, en, va) v1 := by
  unfold wpX_depth
  have hn := ok.1
  refine xs_isB hn (fun z => br_t rfl (h0 z)) (fun b hlb eb => br_f (by decide) ?_)
  refine xs_sol ok (fun me' dm' fr' hd => ?_)
  subst eb
  have L : ∀ m j, j ≤ 16 → 16 - j < m → wX_depth_18 post (nI b) (nI n) (nI k) me' ob ot oe it lr lb la sz kd ev th el op rs fi se dm' fr' lv bg en va m (nI (fa_cn (fa_pc (fun h => fd_L (fe_E n kd th el) (fe_st n) h b)) j)) (nI j) := by
    intro m
    induction m with
    | zero => intro j _ h; omega
    | succ m ih =>
      intro j hj hm
      by_cases e : j = 16
      · subst e
        exact br_t (by decide) (h1 b hlb rfl me' dm' fr')
      · refine br_f (nI_ge (b := 16) (by omega) (by decide)) (xs_lof ok hd (by omega) (fun r hr => xs_has (by omega) (fun z => br_t rfl (nm_r (nI_1 j) ?_)) (fun z => br_f (by decide) ?_)))
        · have := ih (j + 1) (by omega) (by omega)
          rw [fa_cn0 (p := fa_pc (fun h => fd_L (fe_E n kd th el) (fe_st n) h b)) (m := j) (fun q => z ((hr b).mpr (fa_pt.mp q)))] at this
          exact this
        · have := ih (j + 1) (by omega) (by omega)
          rw [fa_cn1 (p := fa_pc (fun h => fd_L (fe_E n kd th el) (fe_st n) h b)) (m := j) (fa_pt.mpr ((hr b).mp z))] at this
          exact nm_r (nI_1 _) (nm_r (nI_1 j) this)
  exact ⟨17, L 17 0 (by omega) (by omega)⟩
end
end
section
theorem ys_out {post : Int32 → Prop} {x : Int32} (N : Nat) (hN : N < 2 ^ 31) (h1 : (∀ j, j < N → ¬ x = nI j) → post 1) (h0 : ∀ j, j < N → x = nI j → post 0) : wpY_out post x (nI N) := by
  rcases pk_ix x (n := N) hN with h | h | ⟨j, hj, e⟩
  · refine br_t h (h1 (fun j hj e => ?_))
    rw [e] at h
    exact nI_pos (by omega) h
  · have h2 : ¬ x < 0 := fun z => nI_pos (n := N) hN (Int32.lt_of_le_of_lt h z)
    refine br_f h2 (br_f (Int32.not_lt.mpr h) (h1 (fun j hj e => ?_)))
    rw [e] at h
    exact nI_ge hj hN h
  · subst e
    exact br_f (nI_pos (by omega)) (br_t (nI_lt hj hN) (h0 j hj rfl))
theorem ys_has {A B : Prop} {s : Int32} {i : Nat} (hi : i < 32) (h0 : ¬ bt s i = true → A) (h1 : bt s i = true → B) : (((s >>> (nI i &&& 31)) &&& 1) = 0 → A) ∧ (¬ ((s >>> (nI i &&& 31)) &&& 1) = 0 → B) := by
  by_cases z : bt s i = false
  · exact br_t ((fa_t s hi).mpr z) (h0 (by rw [z]; exact Bool.false_ne_true))
  · exact br_f (fun q => z ((fa_t s hi).mp q)) (h1 (xs_t z))
/-- MET and DOMINATES, as the reference holds them -/
def ys_dom (n : Nat) (kd th el : Nat → Int32) (ym : Int32) (ru : Nat → Int32) : Prop :=
  (∀ i, bt ym i = true ↔ fd_M (fe_E n kd th el) (fe_st n) i) ∧ (∀ x, x < n → ∀ i, bt (ru x) i = true ↔ fd_D (fe_E n kd th el) (fe_st n) x i)
section
variable {n k : Nat} {ym yr yb yl : Int32} {sz kd ev th el op rs fi se us f1 f2 yv nd ru eg yo yw : Nat → Int32} {yg nw : Nat → Int64}
theorem ys_nxt (ok : fe_ok n kd th el) (rl : fe_rl n kd ev th el us f1 f2) {post : Int32 → Prop} {x : Nat} (hx : x < n) (hp : ∀ r, (∀ i, bt r i = true ↔ (fe_E n kd th el) x i) → post r) : wpY_next post ((nI n), (nI k), ym, yr, yb, yl, sz, op, rs, fi, se, kd, us, f1, f2, yv, nd, ru, eg, yg, nw, yo, yw) (nI x) := by
  have hn := ok.1
  have c : (nI x).toNatClampNeg = x := nI_clamp (by omega)
  have vi : vp_in (nI x) 16 := vp_in_nI (by omega) (by omega)
  have q := rl x hx
  refine fe_cs ok hx (fun k0 => ?_) (fun t k1 _ ht e1 => ?_) (fun t t' k2 _ ht e1 _ ht' e2 => ?_)
  · exact ⟨vi, br_t (by rw [c]; exact k0) (hp 0 (fun i => ⟨fun z => absurd z (sl_no i), fun z => absurd z (fe_E0 hx k0)⟩))⟩
  · refine ⟨vi, br_f (by rw [c, k1]; decide) ⟨vi, br_t (by rw [c]; exact k1) ⟨vi, hp _ (fun i => ?_)⟩⟩⟩
    rw [c, q.2.2.1 (by rw [k1]; decide), e1, sl_sg (by omega), fe_E1 hx k1 e1 (by omega)]
  · refine ⟨vi, br_f (by rw [c, k2]; decide) ⟨vi, br_f (by rw [c, k2]; decide) ⟨vi, vi, hp _ (fun i => ?_)⟩⟩⟩
    rw [c, q.2.2.1 (by rw [k2]; decide), q.2.2.2 k2, e1, e2, sl_or, sl_sg (by omega), sl_sg (by omega), fe_E2 hx k2 e1 (by omega) e2 (by omega)]
theorem ys_com (ok : fe_ok n kd th el) (rl : fe_rl n kd ev th el us f1 f2) {post : Int32 → Prop} {fm w : Int32} {st av : Nat → Prop} (hf : ∀ i, bt fm i = true ↔ st i)
    (hw : (w < 0 ∧ ∀ i, ¬ av i) ∨ (∃ a, a < 16 ∧ w = nI a ∧ ∀ i, av i ↔ i = a)) (hp : ∀ r, (∀ i, bt r i = true ↔ fr_R (fe_E n kd th el) st av i) → post r) : wpY_come post ((nI n), (nI k), ym, yr, yb, yl, sz, op, rs, fi, se, kd, us, f1, f2, yv, nd, ru, eg, yg, nw, yo, yw) fm w := by
  have hn := ok.1
  have L2 : ∀ (J : Int32 → Int32 → Prop) (s0 : Int32), (∀ i, bt s0 i = true → ¬ av i) → (∀ f, fr_rd (fe_E n kd th el) av s0 f → J f s0) →
      ∀ m j f, j ≤ n → n - j < m → sl_in (fun i => bt s0 i = true) (fun x i => bt s0 x = true ∧ (fe_E n kd th el) x i) j f → wY_come_31 post J w s0 (nI n) (nI k) ym yr yb yl sz op rs fi se kd us f1 f2 yv nd ru eg yg nw yo yw m f (nI j) := by
    intro J s0 h0 hJ m
    induction m with
    | zero => intro j f _ h; omega
    | succ m ih =>
      intro j f hj hm hi
      by_cases e : j = n
      · subst e
        have hi2 := sl_e hi (fun x i g => g.2.1)
        refine br_t (Int32.le_refl _) ?_
        rcases hw with ⟨h1, h2⟩ | ⟨a, h1, h2, h3⟩
        · refine br_t h1 (hJ f (fun i => ?_))
          rw [hi2 i]
          exact or_congr Iff.rfl ⟨fun z => ⟨z, h2 i⟩, fun z => z.1⟩
        · subst h2
          refine br_f (nI_pos (by omega)) ?_
          intro y ey
          refine hJ y (fun i => ?_)
          rw [ey, sl_df, hi2 i, sl_sg (by omega), h3 i]
          constructor
          · rintro ⟨z | z, q⟩
            · exact Or.inl z
            · exact Or.inr ⟨z, q⟩
          · rintro (z | ⟨z, q⟩)
            · exact ⟨Or.inl z, fun q => h0 i z ((h3 i).mpr q)⟩
            · exact ⟨Or.inr z, q⟩
      · refine br_f (nI_ge (by omega) (by omega)) (ys_has (by omega) (fun z => nm_r (nI_1 j) (ih (j + 1) f (by omega) (by omega) (sl_n hi (fun i g => z g.1)))) (fun z => ?_))
        refine ys_nxt ok rl (by omega) (fun r hr => ?_)
        intro y ey
        refine nm_r (nI_1 j) (ih (j + 1) y (by omega) (by omega) (sl_1 hi (fun i => ?_)))
        rw [ey, sl_or, hr i]
        exact or_congr Iff.rfl ⟨fun g => ⟨z, g⟩, fun g => g.2⟩
  have L : ∀ m s s0, fy_in (fe_E n kd th el) st av s s0 → 32 - fa_cn (bt s0) 32 < m → wY_come_19 post w (nI n) (nI k) ym yr yb yl sz op rs fi se kd us f1 f2 yv nd ru eg yg nw yo yw m s s0 := by
    intro m
    induction m with
    | zero => intro s s0 _ h; omega
    | succ m ih =>
      intro s s0 hi hm
      by_cases e : s = s0
      · subst e
        exact br_t rfl (hp s (fy_e hi))
      · refine br_f e ⟨n + 1, L2 _ s (fun i z => fr_na (hi.1 i z)) (fun f hr => ?_) (n + 1) 0 s (by omega) (by omega) (sl_0 (fun i => Iff.rfl))⟩
        have := fy_mu hi e
        exact ih f s (fy_1 hi hr) (by omega)
  rcases hw with ⟨h1, h2⟩ | ⟨a, h1, h2, h3⟩
  · refine br_f (Int32.not_le.mpr h1) ⟨33, L 33 fm 0 (fy_0 (fun i => ?_)) (by omega)⟩
    rw [hf i]
    exact ⟨fun z => ⟨z, h2 i⟩, fun z => z.1⟩
  · refine br_t (by rw [h2]; exact nI_pos' (by omega)) ?_
    intro y ey
    refine ⟨33, L 33 y 0 (fy_0 (fun i => ?_)) (by omega)⟩
    rw [ey, h2, sl_df, hf i, sl_sg (by omega), h3 i]
theorem ys_lok (ok : fe_ok n kd th el) (rl : fe_rl n kd ev th el us f1 f2) {post : SY → Prop} (hp : ∀ ym' ru', ys_dom n kd th el ym' ru' → post ((nI n), (nI k), ym', yr, yb, yl, sz, op, rs, fi, se, kd, us, f1, f2, yv, nd, ru', eg, yg, nw, yo, yw)) : wpY_look post ((nI n), (nI k), ym, yr, yb, yl, sz, op, rs, fi, se, kd, us, f1, f2, yv, nd, ru, eg, yg, nw, yo, yw) := by
  have hn := ok.1
  have L : ∀ ym', (∀ i, bt ym' i = true ↔ fd_M (fe_E n kd th el) (fe_st n) i) → ∀ m x ru', x ≤ n → n - x < m → (∀ z, z < x → ∀ i, bt (ru' z) i = true ↔ fd_D (fe_E n kd th el) (fe_st n) z i) →
      wY_look_23 post (nI n) (nI k) ym' yr yb yl m (nI x) sz op rs fi se kd us f1 f2 yv nd ru' eg yg nw yo yw := by
    intro ym' hm m
    induction m with
    | zero => intro j f _ h; omega
    | succ m ih =>
      intro x ru' hx hmm h1
      by_cases e : x = n
      · subst e
        exact br_t (Int32.le_refl _) (hp ym' ru' ⟨hm, h1⟩)
      · have c : (nI x).toNatClampNeg = x := nI_clamp (by omega)
        have vi : vp_in (nI x) 16 := vp_in_nI (by omega) (by omega)
        have key : ∀ w : Int32, (∀ i, bt w i = true ↔ fd_D (fe_E n kd th el) (fe_st n) x i) → ∀ y, y = upd ru' (nI x).toNatClampNeg w → wY_look_23 post (nI n) (nI k) ym' yr yb yl m (nI (x + 1)) sz op rs fi se kd us f1 f2 yv nd y eg yg nw yo yw := by
          intro w hw y ey
          rw [c] at ey
          subst ey
          refine ih (x + 1) _ (by omega) (by omega) (fun z hz i => ?_)
          by_cases ez : z = x
          · subst ez; rw [pk_us]; exact hw i
          · rw [pk_un ez]; exact h1 z (by omega) i
        refine br_f (nI_ge (by omega) (by omega)) (ys_com ok rl (st := fe_st n) (av := fun z => z = x) (fun i => ?_) (Or.inr ⟨x, by omega, rfl, fun i => Iff.rfl⟩) (fun r hr => ?_))
        · rw [sl_b1]
          exact ⟨fun z => ⟨z, by omega⟩, fun z => z.1⟩
        · refine ys_has (by omega) (fun z => ⟨vi, fun y ey => nm_r (nI_1 x) (key 0 (fun i => ⟨fun q => absurd q (sl_no i), fun q => absurd ((hm x).mpr q.1) z⟩) y ey)⟩) (fun z => ⟨vi, fun y ey => nm_r (nI_1 x) (key (ym' &&& (r ^^^ (-1))) (fun i => ?_) y ey)⟩)
          rw [sl_df, hm i, hr i]
          exact ⟨fun q => ⟨(hm x).mp z, q.1, q.2⟩, fun q => ⟨q.2.1, q.2.2⟩⟩
  by_cases e : n = 0
  · subst e
    refine br_t rfl ⟨1, L 0 (fun i => ⟨fun z => absurd z (sl_no i), fun z => ?_⟩) 1 0 ru (by omega) (by omega) (fun z hz => absurd hz (Nat.not_lt_zero z))⟩
    exact absurd (fr_i (P := fun _ => False) (fun x h _ => absurd h.2 (Nat.lt_irrefl 0)) (fun _ _ _ p _ _ => p) z) id
  · refine br_f (nI_ne0 (by omega) (by omega)) (ys_com ok rl (st := fe_st n) (av := fun _ => False) (fun i => ?_) (Or.inl ⟨by decide, fun _ z => z⟩) (fun r hr => ?_))
    · rw [sl_b1]
      exact ⟨fun z => ⟨z, by omega⟩, fun z => z.1⟩
    · exact ⟨n + 1, L r hr (n + 1) 0 ru (by omega) (by omega) (fun z hz => absurd hz (Nat.not_lt_zero z))⟩
theorem ys_is (ok : fe_ok n kd th el) (hd : ys_dom n kd th el ym ru) {post : Int32 → Prop} {a b : Int32} (h0 : ¬ (∃ x y, x < n ∧ y < n ∧ a = nI x ∧ b = nI y ∧ fd_D (fe_E n kd th el) (fe_st n) x y) → post 0)
    (h1 : ∀ x y, x < n → y < n → a = nI x → b = nI y → fd_D (fe_E n kd th el) (fe_st n) x y → post 1) : wpY_is post ((nI n), (nI k), ym, yr, yb, yl, sz, op, rs, fi, se, kd, us, f1, f2, yv, nd, ru, eg, yg, nw, yo, yw) a b := by
  unfold wpY_is
  have hn := ok.1
  refine ys_out n (by omega) (fun z => br_f (by decide) (h0 (fun ⟨x, y, lx, ly, ex, ey, _⟩ => z x lx ex))) (fun x lx ex => br_t rfl ?_)
  refine ys_out n (by omega) (fun z => br_f (by decide) (h0 (fun ⟨x, y, lx, ly, ex, ey, _⟩ => z y ly ey))) (fun y ly ey => br_t rfl ?_)
  subst ex
  subst ey
  have c : (nI x).toNatClampNeg = x := nI_clamp (by omega)
  refine ⟨vp_in_nI (by omega) (by omega), ys_has (by omega) (fun z => h0 (fun ⟨x', y', lx', ly', ex', ey', q⟩ => z ?_)) (fun z => h1 x y lx ly rfl rfl ?_)⟩
  · rw [c, hd.2 x lx, (nI_eq (by omega) (by omega)).mp ex', (nI_eq (by omega) (by omega)).mp ey']
    exact q
  · rw [c, hd.2 x lx] at z
    exact z
theorem ys_isN (ok : fe_ok n kd th el) (hd : ys_dom n kd th el ym ru) {post : Int32 → Prop} {x y : Nat} (hx : x < n) (hy : y < n) (h0 : ¬ fd_D (fe_E n kd th el) (fe_st n) x y → post 0) (h1 : fd_D (fe_E n kd th el) (fe_st n) x y → post 1) : wpY_is post ((nI n), (nI k), ym, yr, yb, yl, sz, op, rs, fi, se, kd, us, f1, f2, yv, nd, ru, eg, yg, nw, yo, yw) (nI x) (nI y) := by
  have hn := ok.1
  refine ys_is ok hd (fun z => h0 (fun q => z ⟨x, y, hx, hy, rfl, rfl, q⟩)) (fun x' y' lx' ly' ex' ey' q => h1 ?_)
  rw [(nI_eq (by omega) (by omega)).mp ex', (nI_eq (by omega) (by omega)).mp ey']
  exact q
theorem ys_par0 {post : Int32 → SY → Prop} {J : Int32 → Prop} {v1 : Int32} {x m : Nat} {y : Int32} (hJ : J (nI (x + 1))) : wY_parent_37 post J v1 (nI x) (nI n) (nI k) ym yr yb yl sz op rs fi se kd us f1 f2 yv nd ru eg yg nw yo yw (m + 1) 0 y :=
  br_c (fun _ => br_t rfl (nm_r (nI_1 x) hJ)) (fun _ => br_t rfl (br_t rfl (nm_r (nI_1 x) hJ)))
theorem ys_par (ok : fe_ok n kd th el) (rl : fe_rl n kd ev th el us f1 f2) {post : Int32 → SY → Prop} {b : Nat} {r : Int32} (hb : b < n) (hr : fd_P (fe_E n kd th el) (fe_st n) b r) (hp : ∀ ym' ru', post r ((nI n), (nI k), ym', yr, yb, yl, sz, op, rs, fi, se, kd, us, f1, f2, yv, nd, ru', eg, yg, nw, yo, yw)) : wpY_parent post ((nI n), (nI k), ym, yr, yb, yl, sz, op, rs, fi, se, kd, us, f1, f2, yv, nd, ru, eg, yg, nw, yo, yw) (nI b) := by
  unfold wpY_parent
  have hn := ok.1
  refine ys_lok ok rl (fun ym' ru' hd => ?_)
  rcases hr with ⟨er, hr⟩ | ⟨c, er, nc, dc, hc⟩
  · have L : ∀ m x, x ≤ n → n - x < m → wY_parent_6 post (nI b) (nI n) (nI k) ym' yr yb yl sz op rs fi se kd us f1 f2 yv nd ru' eg yg nw yo yw m (nI x) := by
      intro m
      induction m with
      | zero => intro x _ h; omega
      | succ m ih =>
        intro x hx hm
        by_cases e : x = n
        · subst e
          refine br_t (Int32.le_refl _) ?_
          rw [← er]
          exact hp ym' ru'
        · refine br_f (nI_ge (by omega) (by omega)) ?_
          by_cases eb : x = b
          · exact br_t (by rw [eb]) ⟨1, ys_par0 (ih (x + 1) (by omega) (by omega))⟩
          · refine br_f (fun z => eb ((nI_eq (by omega) (by omega)).mp z)) (ys_isN ok hd (by omega) hb (fun _ => br_t rfl ⟨1, ys_par0 (ih (x + 1) (by omega) (by omega))⟩) (fun z => absurd z (hr x eb)))
    exact ⟨n + 1, L (n + 1) 0 (by omega) (by omega)⟩
  · subst er
    have lc : c < n := fe_Mn ok dc.1
    have LA : ∀ (J : Int32 → Prop) x, x < n → ¬ x = c → J (nI (x + 1)) → fd_D (fe_E n kd th el) (fe_st n) x b → ¬ x = b → ∀ m y, y ≤ c → n - y < m → wY_parent_37 post J (nI b) (nI x) (nI n) (nI k) ym' yr yb yl sz op rs fi se kd us f1 f2 yv nd ru' eg yg nw yo yw (m + 1) 1 (nI y) := by
      intro J x lx nx hJ dx nb m
      induction m with
      | zero => intro y _ h; omega
      | succ m ih =>
        intro y hy hm
        refine br_f (nI_ge (by omega) (by omega)) (br_f (by decide) ?_)
        by_cases eb : y = b
        · refine br_t (by rw [eb]) (nm_r (nI_1 y) (ih (y + 1) ?_ (by omega)))
          have : ¬ y = c := fun z => nc (z.symm.trans eb)
          omega
        · refine br_f (fun z => eb ((nI_eq (by omega) (by omega)).mp z)) (ys_isN ok hd (by omega) hb (fun z => br_t rfl (nm_r (nI_1 y) (ih (y + 1) ?_ (by omega)))) (fun z => br_f (by decide) ?_))
          · have : ¬ y = c := fun q => z (by rw [q]; exact dc)
            omega
          · refine ys_isN ok hd (by omega) lx (fun q => nm_r (nI_1 y) (ys_par0 hJ)) (fun q => nm_r (nI_1 y) (ih (y + 1) ?_ (by omega)))
            have : ¬ y = c := fun w => nx (fd_as (hc x nb dx) (by rw [← w]; exact q))
            omega
    have LB : ∀ (J : Int32 → Prop), ∀ m y, y ≤ n → n - y < m → wY_parent_37 post J (nI b) (nI c) (nI n) (nI k) ym' yr yb yl sz op rs fi se kd us f1 f2 yv nd ru' eg yg nw yo yw m 1 (nI y) := by
      intro J m
      induction m with
      | zero => intro y _ h; omega
      | succ m ih =>
        intro y hy hm
        by_cases e : y = n
        · subst e
          exact br_t (Int32.le_refl _) (br_f (by decide) (hp ym' ru'))
        · refine br_f (nI_ge (by omega) (by omega)) (br_f (by decide) ?_)
          by_cases eb : y = b
          · exact br_t (by rw [eb]) (nm_r (nI_1 y) (ih (y + 1) (by omega) (by omega)))
          · refine br_f (fun z => eb ((nI_eq (by omega) (by omega)).mp z)) (ys_isN ok hd (by omega) hb (fun z => br_t rfl (nm_r (nI_1 y) (ih (y + 1) (by omega) (by omega)))) (fun z => br_f (by decide) ?_))
            exact ys_isN ok hd (by omega) lc (fun q => absurd (hc y eb z) q) (fun q => nm_r (nI_1 y) (ih (y + 1) (by omega) (by omega)))
    have L : ∀ m x, x ≤ c → n - x < m → wY_parent_6 post (nI b) (nI n) (nI k) ym' yr yb yl sz op rs fi se kd us f1 f2 yv nd ru' eg yg nw yo yw m (nI x) := by
      intro m
      induction m with
      | zero => intro x _ h; omega
      | succ m ih =>
        intro x hx hm
        refine br_f (nI_ge (by omega) (by omega)) ?_
        by_cases eb : x = b
        · have : ¬ x = c := fun z => nc (z.symm.trans eb)
          exact br_t (by rw [eb]) ⟨1, ys_par0 (ih (x + 1) (by omega) (by omega))⟩
        · refine br_f (fun z => eb ((nI_eq (by omega) (by omega)).mp z)) (ys_isN ok hd (by omega) hb (fun z => br_t rfl ⟨1, ys_par0 (ih (x + 1) ?_ (by omega))⟩) (fun z => br_f (by decide) ?_))
          · have : ¬ x = c := fun q => z (by rw [q]; exact dc)
            omega
          · by_cases ec : x = c
            · rw [ec]
              exact ⟨n + 1, LB _ (n + 1) 0 (by omega) (by omega)⟩
            · exact ⟨n + 2, LA _ x (by omega) ec (ih (x + 1) (by omega) (by omega)) z eb (n + 1) 0 (by omega) (by omega)⟩
    exact ⟨n + 1, L (n + 1) 0 (by omega) (by omega)⟩
theorem ys_parO (ok : fe_ok n kd th el) (rl : fe_rl n kd ev th el us f1 f2) {post : Int32 → SY → Prop} {v1 : Int32} (hv : ∀ j, j < n → ¬ v1 = nI j) (hp : ∀ ym' ru', post (-1) ((nI n), (nI k), ym', yr, yb, yl, sz, op, rs, fi, se, kd, us, f1, f2, yv, nd, ru', eg, yg, nw, yo, yw)) : wpY_parent post ((nI n), (nI k), ym, yr, yb, yl, sz, op, rs, fi, se, kd, us, f1, f2, yv, nd, ru, eg, yg, nw, yo, yw) v1 := by
  unfold wpY_parent
  have hn := ok.1
  refine ys_lok ok rl (fun ym' ru' hd => ?_)
  have L : ∀ m x, x ≤ n → n - x < m → wY_parent_6 post v1 (nI n) (nI k) ym' yr yb yl sz op rs fi se kd us f1 f2 yv nd ru' eg yg nw yo yw m (nI x) := by
    intro m
    induction m with
    | zero => intro x _ h; omega
    | succ m ih =>
      intro x hx hm
      by_cases e : x = n
      · subst e
        exact br_t (Int32.le_refl _) (hp ym' ru')
      · exact br_f (nI_ge (by omega) (by omega)) (br_f (fun z => hv x (by omega) z.symm) (ys_is ok hd (fun _ => br_t rfl ⟨1, ys_par0 (ih (x + 1) (by omega) (by omega))⟩) (fun x' y' _ ly _ ey _ => absurd ey (hv y' ly))))
  exact ⟨n + 1, L (n + 1) 0 (by omega) (by omega)⟩
theorem ys_dms (ok : fe_ok n kd th el) (rl : fe_rl n kd ev th el us f1 f2) {post : Int32 → SY → Prop} {v1 v2 : Int32} (h0 : ∀ ym' ru', ¬ (∃ a b, a < n ∧ b < n ∧ v1 = nI a ∧ v2 = nI b ∧ fd_D (fe_E n kd th el) (fe_st n) a b) → post 0 ((nI n), (nI k), ym', yr, yb, yl, sz, op, rs, fi, se, kd, us, f1, f2, yv, nd, ru', eg, yg, nw, yo, yw))
    (h1 : ∀ ym' ru', (∃ a b, a < n ∧ b < n ∧ v1 = nI a ∧ v2 = nI b ∧ fd_D (fe_E n kd th el) (fe_st n) a b) → post 1 ((nI n), (nI k), ym', yr, yb, yl, sz, op, rs, fi, se, kd, us, f1, f2, yv, nd, ru', eg, yg, nw, yo, yw)) : wpY_dominates post ((nI n), (nI k), ym, yr, yb, yl, sz, op, rs, fi, se, kd, us, f1, f2, yv, nd, ru, eg, yg, nw, yo, yw) v1 v2 := by
  unfold wpY_dominates
  exact ys_lok ok rl (fun ym' ru' hd => ys_is ok hd (fun z => ⟨rfl, h0 ym' ru' z⟩) (fun x y lx ly ex ey q => ⟨rfl, h1 ym' ru' ⟨x, y, lx, ly, ex, ey, q⟩⟩))
end
end
section
section
variable {n k : Nat} {ym yr yb yl : Int32} {sz kd ev th el op rs fi se us f1 f2 yv nd ru eg yo yw : Nat → Int32} {yg nw : Nat → Int64}
theorem ys_edg (ok : fe_ok n kd th el) (rl : fe_rl n kd ev th el us f1 f2) (hd : ys_dom n kd th el ym ru) {post : Int32 → Prop} {v1 : Int32}
    (hp : ∀ r, (∀ i, bt r i = true ↔ ∃ a, a < n ∧ v1 = nI a ∧ fd_F (fe_E n kd th el) (fe_st n) a i) → post r) : wpY_edge post ((nI n), (nI k), ym, yr, yb, yl, sz, op, rs, fi, se, kd, us, f1, f2, yv, nd, ru, eg, yg, nw, yo, yw) v1 := by
  have hn := ok.1
  have L2 : ∀ f0, (∀ i, bt f0 i = true ↔ ∃ x, (∃ a, a < n ∧ v1 = nI a ∧ fd_D (fe_E n kd th el) (fe_st n) a x) ∧ (fe_E n kd th el) x i) → ∀ m y f, y ≤ n → n - y < m →
      (∀ i, bt f i = true ↔ (bt f0 i = true ∧ ¬ (i < y ∧ ¬ nI i = v1 ∧ ∃ a, a < n ∧ v1 = nI a ∧ fd_D (fe_E n kd th el) (fe_st n) a i))) → wY_edge_37 post v1 (nI n) (nI k) ym yr yb yl sz op rs fi se kd us f1 f2 yv nd ru eg yg nw yo yw m f (nI y) := by
    intro f0 h0 m
    induction m with
    | zero => intro j f _ h; omega
    | succ m ih =>
      intro y f hy hm hi
      by_cases e : y = n
      · subst e
        refine br_t (Int32.le_refl _) (hp f (fun i => ?_))
        rw [hi i, h0 i]
        constructor
        · rintro ⟨⟨x, ⟨a, la, ea, da⟩, ex⟩, q⟩
          refine ⟨a, la, ea, ⟨x, da, ex⟩, fun ⟨z1, z2⟩ => q ⟨fe_El ok ex, fun z => z1 ?_, a, la, ea, z2⟩⟩
          have := fe_El ok ex
          exact (nI_eq (by omega) (by omega)).mp (z.trans ea)
        · rintro ⟨a, la, ea, ⟨x, da, ex⟩, q⟩
          refine ⟨⟨x, ⟨a, la, ea, da⟩, ex⟩, fun ⟨z1, z2, a', la', ea', da'⟩ => q ⟨fun z => z2 (by rw [z, ea]), ?_⟩⟩
          rw [← (nI_eq (by omega) (by omega)).mp (ea.symm.trans ea')] at da'
          exact da'
      · refine br_f (nI_ge (by omega) (by omega)) ?_
        by_cases eb : nI y = v1
        · refine br_t eb (nm_r (nI_1 y) (ih (y + 1) f (by omega) (by omega) (fun i => ?_)))
          rw [hi i]
          refine and_congr Iff.rfl (not_congr ⟨fun z => ⟨by omega, z.2⟩, fun z => ⟨?_, z.2⟩⟩)
          have : ¬ i = y := fun q => z.2.1 (by rw [q]; exact eb)
          omega
        · refine br_f eb (ys_is ok hd (fun z => br_t rfl (nm_r (nI_1 y) (ih (y + 1) f (by omega) (by omega) (fun i => ?_)))) (fun a y' la ly ea ey q => br_f (by decide) ?_))
          · rw [hi i]
            refine and_congr Iff.rfl (not_congr ⟨fun z => ⟨by omega, z.2⟩, fun w => ⟨?_, w.2⟩⟩)
            have : ¬ i = y := fun q => by
              obtain ⟨a, la, ea, da⟩ := w.2.2
              exact z ⟨a, y, la, by omega, ea, rfl, by rw [← q]; exact da⟩
            omega
          · intro g eg
            have ey2 := (nI_eq (by omega) (by omega)).mp ey
            subst ey2
            refine nm_r (nI_1 y) (ih (y + 1) g (by omega) (by omega) (fun i => ?_))
            rw [eg, sl_df, hi i, sl_sg (by omega)]
            constructor
            · rintro ⟨⟨z1, z2⟩, z3⟩
              exact ⟨z1, fun w => z2 ⟨by omega, w.2⟩⟩
            · rintro ⟨z1, z2⟩
              refine ⟨⟨z1, fun w => z2 ⟨by omega, w.2⟩⟩, fun z3 => z2 ⟨by omega, ?_⟩⟩
              subst z3
              exact ⟨eb, a, la, ea, q⟩
  have L : ∀ m j f, j ≤ n → n - j < m → sl_in (fun _ => False) (fun x i => (∃ a, a < n ∧ v1 = nI a ∧ fd_D (fe_E n kd th el) (fe_st n) a x) ∧ (fe_E n kd th el) x i) j f → wY_edge_4 post v1 (nI n) (nI k) ym yr yb yl sz op rs fi se kd us f1 f2 yv nd ru eg yg nw yo yw m f (nI j) := by
    intro m
    induction m with
    | zero => intro j f _ h; omega
    | succ m ih =>
      intro j f hj hm hi
      by_cases e : j = n
      · subst e
        refine br_t (Int32.le_refl _) ⟨j + 1, L2 f (fun i => ?_) (j + 1) 0 f (by omega) (by omega) (fun i => ⟨fun z => ⟨z, fun w => absurd w.1 (Nat.not_lt_zero i)⟩, fun z => z.1⟩)⟩
        rw [sl_e hi (fun x i g => g.2.1)]
        exact ⟨fun z => z.elim False.elim id, Or.inr⟩
      · refine br_f (nI_ge (by omega) (by omega)) (ys_is ok hd (fun z => br_t rfl (nm_r (nI_1 j) (ih (j + 1) f (by omega) (by omega) (sl_n hi (fun i g => ?_))))) (fun a y la ly ea ey q => br_f (by decide) ?_))
        · obtain ⟨⟨a, la, ea, da⟩, _⟩ := g
          exact z ⟨a, j, la, by omega, ea, rfl, da⟩
        · have ey2 := (nI_eq (by omega) (by omega)).mp ey
          subst ey2
          refine ys_nxt ok rl (by omega) (fun r hr => ?_)
          intro g eg
          refine nm_r (nI_1 j) (ih (j + 1) g (by omega) (by omega) (sl_1 hi (fun i => ?_)))
          rw [eg, sl_or, hr i]
          exact or_congr Iff.rfl ⟨fun w => ⟨⟨a, la, ea, q⟩, w⟩, fun w => w.2⟩
  exact ⟨n + 1, L (n + 1) 0 0 (by omega) (by omega) (sl_00 (fun _ z => z))⟩
theorem ys_frt (ok : fe_ok n kd th el) (rl : fe_rl n kd ev th el us f1 f2) {post : Int32 → SY → Prop} {v1 : Int32} (h1 : ∀ r ym' ru', (∀ i, bt r i = true ↔ ∃ a, a < n ∧ v1 = nI a ∧ fd_F (fe_E n kd th el) (fe_st n) a i) → post r ((nI n), (nI k), ym', yr, yb, yl, sz, op, rs, fi, se, kd, us, f1, f2, yv, nd, ru', eg, yg, nw, yo, yw)) : wpY_frontier post ((nI n), (nI k), ym, yr, yb, yl, sz, op, rs, fi, se, kd, us, f1, f2, yv, nd, ru, eg, yg, nw, yo, yw) v1 := by
  unfold wpY_frontier
  exact ys_lok ok rl (fun ym' ru' hd => ys_edg ok rl hd (fun r hr => h1 r ym' ru' hr))
theorem ys_set (hn : n ≤ 16) (is : fe_is n sz op rs fi se) {post : Int32 → Prop} {x : Nat} (hx : x < n) {v : Int32} (h0 : ¬ fe_se sz rs x v → post 0) (h1 : fe_se sz rs x v → post 1) : wpY_sets post ((nI n), (nI k), ym, yr, yb, yl, sz, op, rs, fi, se, kd, us, f1, f2, yv, nd, ru, eg, yg, nw, yo, yw) (nI x) v := by
  obtain ⟨s, hs, es, _⟩ := is x hx
  have c : (nI x).toNatClampNeg = x := nI_clamp (by omega)
  have cs : (sz x).toNatClampNeg = s := by rw [es, nI_clamp (by omega)]
  have e4 : (4 : Int32) * nI x = nI (4 * x) := by
    show nI 4 * nI x = _
    rw [pk_mul]
  have L : ∀ m q, q ≤ s → s - q < m → (∀ i, i < q → ¬ rs (4 * x + i) = v) → wY_sets_4 post (nI x) v (nI n) (nI k) ym yr yb yl sz op rs fi se kd us f1 f2 yv nd ru eg yg nw yo yw m (nI (4 * x + q)) := by
    intro m
    induction m with
    | zero => intro j _ h; omega
    | succ m ih =>
      intro q hq hm hi
      have vi : vp_in (nI x) 16 := vp_in_nI (by omega) (by omega)
      have e5 : ((4 : Int32) * nI x) + sz (nI x).toNatClampNeg = nI (4 * x + s) := by rw [e4, c, es, nI_add]
      by_cases e : q = s
      · subst e
        refine ⟨vi, br_t (by rw [e5]; exact Int32.le_refl _) (h0 (fun ⟨i, hi', q'⟩ => hi i (by omega) q'))⟩
      · refine ⟨vi, br_f (by rw [e5]; exact nI_ge (by omega) (by omega)) ⟨vp_in_nI (by omega) (by omega), ?_⟩⟩
        have c4 : (nI (4 * x + q)).toNatClampNeg = 4 * x + q := nI_clamp (by omega)
        by_cases z : rs (4 * x + q) = v
        · exact br_t (by rw [c4]; exact z) (h1 ⟨q, by omega, z⟩)
        · refine br_f (by rw [c4]; exact z) (nm_r (nI_1 _) (ih (q + 1) (by omega) (by omega) (fun i hi' => ?_)))
          by_cases ei : i = q
          · rw [ei]; exact z
          · exact hi i (by omega)
  intro y ey
  rw [e4] at ey
  subst ey
  exact ⟨s + 1, L (s + 1) 0 (by omega) (by omega) (fun i hi => absurd hi (Nat.not_lt_zero i))⟩
theorem ys_mer (ok : fe_ok n kd th el) (rl : fe_rl n kd ev th el us f1 f2) (is : fe_is n sz op rs fi se) {post : Int32 → SY → Prop} {v1 : Int32}
    (h1 : ∀ r ym' ru' eg', (∀ i, bt r i = true ↔ (i < 6 ∧ ∃ b, b < n ∧ v1 = nI b ∧ fd_G (fe_E n kd th el) (fe_st n) (fe_sc n sz rs (nI i)) b)) → post r ((nI n), (nI k), ym', yr, yb, yl, sz, op, rs, fi, se, kd, us, f1, f2, yv, nd, ru', eg', yg, nw, yo, yw)) : wpY_merges post ((nI n), (nI k), ym, yr, yb, yl, sz, op, rs, fi, se, kd, us, f1, f2, yv, nd, ru, eg, yg, nw, yo, yw) v1 := by
  unfold wpY_merges
  have hn := ok.1
  refine ys_out n (by omega) (fun z => br_f (by decide) (h1 0 ym ru eg (fun i => ⟨fun q => absurd q (sl_no i), fun ⟨_, a, la, ea, _⟩ => absurd ea (z a la)⟩))) (fun b lb eb => br_t rfl ?_)
  refine ys_lok ok rl (fun ym' ru' hd => ?_)
  subst eb
  have L4 : ∀ eg', (∀ x, x < n → ∀ i, bt (eg' x) i = true ↔ fd_F (fe_E n kd th el) (fe_st n) x i) → ∀ (J J' : Int32 → Int32 → Prop) (x2 x3 s0 : Int32), (∀ f, fr_rd (fd_F (fe_E n kd th el) (fe_st n)) (fun _ => False) s0 f → J' f s0) →
      ∀ m j f, j ≤ n → n - j < m → sl_in (fun i => bt s0 i = true) (fun x i => bt s0 x = true ∧ fd_F (fe_E n kd th el) (fe_st n) x i) j f → wY_merges_119 post J J' (nI b) x2 x3 s0 (nI n) (nI k) ym' yr yb yl sz op rs fi se kd us f1 f2 yv nd ru' eg' yg nw yo yw m f (nI j) := by
    intro eg' he J J' x2 x3 s0 hJ m
    induction m with
    | zero => intro j f _ h; omega
    | succ m ih =>
      intro j f hj hm hi
      by_cases e : j = n
      · subst e
        refine br_t (Int32.le_refl _) (hJ f (fun i => ?_))
        rw [sl_e hi (fun x i g => fe_Mn ok (fd_F16 ok g.2).2.2)]
        exact or_congr Iff.rfl ⟨fun z => ⟨z, fun f => f⟩, fun z => z.1⟩
      · have c : (nI j).toNatClampNeg = j := nI_clamp (by omega)
        refine br_f (nI_ge (by omega) (by omega)) (ys_has (by omega) (fun z => nm_r (nI_1 j) (ih (j + 1) f (by omega) (by omega) (sl_n hi (fun i g => z g.1)))) (fun z => ⟨vp_in_nI (by omega) (by omega), ?_⟩))
        intro y ey
        rw [c] at ey
        refine nm_r (nI_1 j) (ih (j + 1) y (by omega) (by omega) (sl_1 hi (fun i => ?_)))
        rw [ey, sl_or, he j (by omega) i]
        exact or_congr Iff.rfl ⟨fun g => ⟨z, g⟩, fun g => g.2⟩
  have L3 : ∀ eg', (∀ x, x < n → ∀ i, bt (eg' x) i = true ↔ fd_F (fe_E n kd th el) (fe_st n) x i) → ∀ (J : Int32 → Int32 → Prop) (x2 : Int32) (v : Nat), v < 6 → (fd_G (fe_E n kd th el) (fe_st n) (fe_sc n sz rs (nI v)) b → J (x2 ||| ((1 : Int32) <<< (nI v &&& 31))) (nI (v + 1))) → (¬ fd_G (fe_E n kd th el) (fe_st n) (fe_sc n sz rs (nI v)) b → J x2 (nI (v + 1))) →
      ∀ m s s0, fy_in (fd_F (fe_E n kd th el) (fe_st n)) (fun z => ∃ x, fe_sc n sz rs (nI v) x ∧ fd_F (fe_E n kd th el) (fe_st n) x z) (fun _ => False) s s0 → 32 - fa_cn (bt s0) 32 < m → wY_merges_105 post J (nI b) x2 (nI v) (nI n) (nI k) ym' yr yb yl sz op rs fi se kd us f1 f2 yv nd ru' eg' yg nw yo yw m s s0 := by
    intro eg' he J x2 v hv hJ1 hJ0 m
    induction m with
    | zero => intro s s0 _ h; omega
    | succ m ih =>
      intro s s0 hi hm
      by_cases e : s = s0
      · subst e
        have hb := fy_e hi b
        refine br_t rfl (ys_has (by omega) (fun z => nm_r (nI_1 v) (hJ0 (fun q => z (hb.mpr q)))) (fun z => nm_e (nm_r (nI_1 v) (hJ1 (hb.mp z)))))
      · refine br_f e ⟨n + 1, L4 eg' he J _ x2 (nI v) s (fun f hr => ?_) (n + 1) 0 s (by omega) (by omega) (sl_0 (fun i => Iff.rfl))⟩
        have := fy_mu hi e
        exact ih f s (fy_1 hi hr) (by omega)
  have L2 : ∀ eg', (∀ x, x < n → ∀ i, bt (eg' x) i = true ↔ fd_F (fe_E n kd th el) (fe_st n) x i) → ∀ (J : Int32 → Int32 → Prop) (x2 : Int32) (v : Nat), v < 6 → (fd_G (fe_E n kd th el) (fe_st n) (fe_sc n sz rs (nI v)) b → J (x2 ||| ((1 : Int32) <<< (nI v &&& 31))) (nI (v + 1))) → (¬ fd_G (fe_E n kd th el) (fe_st n) (fe_sc n sz rs (nI v)) b → J x2 (nI (v + 1))) →
      ∀ m j f, j ≤ n → n - j < m → sl_in (fun i => fd_F (fe_E n kd th el) (fe_st n) 0 i) (fun x i => x < n ∧ fe_se sz rs x (nI v) ∧ fd_F (fe_E n kd th el) (fe_st n) x i) j f → wY_merges_65 post J (nI b) x2 (nI v) (nI n) (nI k) ym' yr yb yl sz op rs fi se kd us f1 f2 yv nd ru' eg' yg nw yo yw m f (nI j) := by
    intro eg' he J x2 v hv hJ1 hJ0 m
    induction m with
    | zero => intro j f _ h; omega
    | succ m ih =>
      intro j f hj hm hi
      by_cases e : j = n
      · subst e
        refine br_t (Int32.le_refl _) ⟨33, L3 eg' he J x2 v hv hJ1 hJ0 33 f 0 (fy_0 (fun i => ?_)) (by omega)⟩
        rw [sl_e hi (fun x i g => g.1)]
        constructor
        · rintro (z | ⟨x, z1, z2, z3⟩)
          · exact ⟨⟨0, Or.inl rfl, z⟩, fun f => f⟩
          · exact ⟨⟨x, Or.inr ⟨z1, z2⟩, z3⟩, fun f => f⟩
        · rintro ⟨⟨x, z1 | z1, z2⟩, _⟩
          · rw [z1] at z2; exact Or.inl z2
          · exact Or.inr ⟨x, z1.1, z1.2, z2⟩
      · have c : (nI j).toNatClampNeg = j := nI_clamp (by omega)
        refine br_f (nI_ge (by omega) (by omega)) (ys_set hn is (by omega) (fun z => br_t rfl (nm_r (nI_1 j) (ih (j + 1) f (by omega) (by omega) (sl_n hi (fun i g => z g.2.1))))) (fun z => br_f (by decide) ⟨vp_in_nI (by omega) (by omega), ?_⟩))
        intro y ey
        rw [c] at ey
        refine nm_r (nI_1 j) (ih (j + 1) y (by omega) (by omega) (sl_1 hi (fun i => ?_)))
        rw [ey, sl_or, he j (by omega) i]
        exact or_congr Iff.rfl ⟨fun g => ⟨by omega, z, g⟩, fun g => g.2.2⟩
  have L1 : ∀ eg', (∀ x, x < n → ∀ i, bt (eg' x) i = true ↔ fd_F (fe_E n kd th el) (fe_st n) x i) → ∀ m j f, j ≤ 6 → 6 - j < m → sl_in (fun _ => False) (fun v i => i = v ∧ (v < 6 ∧ fd_G (fe_E n kd th el) (fe_st n) (fe_sc n sz rs (nI v)) b)) j f → wY_merges_48 post (nI b) (nI n) (nI k) ym' yr yb yl sz op rs fi se kd us f1 f2 yv nd ru' eg' yg nw yo yw m f (nI j) := by
    intro eg' he m
    induction m with
    | zero => intro j f _ h; omega
    | succ m ih =>
      intro j f hj hm hi
      by_cases e : j = 6
      · subst e
        refine br_t (by decide) (h1 f ym' ru' eg' (fun i => ?_))
        rw [sl_e hi (fun x i g => g.2.1)]
        constructor
        · rintro (z | ⟨x, g1, g2, g3⟩)
          · exact z.elim
          · rw [g1]
            exact ⟨g2, b, lb, rfl, g3⟩
        · rintro ⟨g2, b', lb', e', g3⟩
          rw [← (nI_eq (by omega) (by omega)).mp e'] at g3
          exact Or.inr ⟨i, rfl, g2, g3⟩
      · refine br_f (nI_ge (b := 6) (by omega) (by decide)) (nm_e ⟨n + 1, L2 eg' he _ f j (by omega) (fun g => ?_) (fun g => ?_) (n + 1) 0 (eg' 0) (by omega) (by omega) (sl_0 (he 0 (by omega)))⟩)
        · refine ih (j + 1) _ (by omega) (by omega) (sl_1 hi (fun i => ?_))
          rw [sl_or, sl_sg (by omega)]
          exact or_congr Iff.rfl ⟨fun w => ⟨w, by omega, g⟩, fun w => w.1⟩
        · exact ih (j + 1) f (by omega) (by omega) (sl_n hi (fun i w => g w.2.2))
  have L0 : ∀ m x eg', x ≤ n → n - x < m → (∀ z, z < x → ∀ i, bt (eg' z) i = true ↔ fd_F (fe_E n kd th el) (fe_st n) z i) → wY_merges_19 post (nI b) (nI n) (nI k) ym' yr yb yl m (nI x) sz op rs fi se kd us f1 f2 yv nd ru' eg' yg nw yo yw := by
    intro m
    induction m with
    | zero => intro j f _ h; omega
    | succ m ih =>
      intro x eg' hx hm hi
      by_cases e : x = n
      · subst e
        exact br_t (Int32.le_refl _) ⟨7, L1 eg' hi 7 0 0 (by omega) (by omega) (sl_00 (fun _ z => z))⟩
      · have c : (nI x).toNatClampNeg = x := nI_clamp (by omega)
        refine br_f (nI_ge (by omega) (by omega)) (ys_edg ok rl hd (fun r hr => ⟨vp_in_nI (by omega) (by omega), ?_⟩))
        intro y ey
        rw [c] at ey
        subst ey
        refine nm_r (nI_1 x) (ih (x + 1) _ (by omega) (by omega) (fun z hz i => ?_))
        by_cases ez : z = x
        · subst ez
          rw [pk_us, hr i]
          refine ⟨fun ⟨a, la, ea, q⟩ => ?_, fun q => ⟨z, by omega, rfl, q⟩⟩
          rw [(nI_eq (by omega) (by omega)).mp ea]
          exact q
        · rw [pk_un ez]
          exact hi z (by omega) i
  exact ⟨n + 1, L0 (n + 1) 0 eg (by omega) (by omega) (fun z hz => absurd hz (Nat.not_lt_zero z))⟩
theorem ys_dep (ok : fe_ok n kd th el) (rl : fe_rl n kd ev th el us f1 f2) {post : Int32 → SY → Prop} {v1 : Int32} (h0 : (∀ j, j < n → ¬ v1 = nI j) → post (-1) ((nI n), (nI k), ym, yr, yb, yl, sz, op, rs, fi, se, kd, us, f1, f2, yv, nd, ru, eg, yg, nw, yo, yw))
    (h1 : ∀ b, b < n → v1 = nI b → ∀ ym' ru', post (nI (fa_cn (fa_pc (fun h => fd_L (fe_E n kd th el) (fe_st n) h b)) n)) ((nI n), (nI k), ym', yr, yb, yl, sz, op, rs, fi, se, kd, us, f1, f2, yv, nd, ru', eg, yg, nw, yo, yw)) : wpY_depth post ((nI n), (nI k), ym, yr, yb, yl, sz, op, rs, fi, se, kd, us, f1, f2, yv, nd, ru, eg, yg, nw, yo, yw) v1 := by
  unfold wpY_depth
  have hn := ok.1
  refine ys_out n (by omega) (fun z => br_f (by decide) (h0 z)) (fun b lb eb => br_t rfl ?_)
  refine ys_lok ok rl (fun ym' ru' hd => ?_)
  subst eb
  have L2 : ∀ (J : Int32 → Int32 → Prop) (x2 : Int32) (h : Nat), h < n → (fd_L (fe_E n kd th el) (fe_st n) h b → J (x2 + 1) (nI (h + 1))) → (¬ fd_L (fe_E n kd th el) (fe_st n) h b → J x2 (nI (h + 1))) →
      ∀ m j f, j ≤ n → n - j < m → sl_in (fun _ => False) (fun x i => i = x ∧ fd_T (fe_E n kd th el) (fe_st n) h x) j f → wY_depth_35 post J (nI b) x2 (nI h) (nI n) (nI k) ym' yr yb yl sz op rs fi se kd us f1 f2 yv nd ru' eg yg nw yo yw m f (nI j) := by
    intro J x2 h lh hJ1 hJ0 m
    have y1 : fd_L (fe_E n kd th el) (fe_st n) h b → wY_depth_129 post J (nI b) x2 (nI h) (nI n) (nI k) ym' yr yb yl sz op rs fi se kd us f1 f2 yv nd ru' eg yg nw yo yw := fun q => br_f (by decide) (nm_e (nm_r (nI_1 h) (hJ1 q)))
    have y0 : ¬ fd_L (fe_E n kd th el) (fe_st n) h b → wY_depth_134 post J (nI b) x2 (nI h) 0 (nI n) (nI k) ym' yr yb yl sz op rs fi se kd us f1 f2 yv nd ru' eg yg nw yo yw := fun q => br_t rfl (nm_r (nI_1 h) (hJ0 q))
    induction m with
    | zero => intro j f _ h; omega
    | succ m ih =>
      intro j f hj hm hi
      by_cases e : j = n
      · have e' := e.symm
        subst e'
        have hi2 : ∀ i, bt f i = true ↔ fd_T (fe_E n kd th el) (fe_st n) h i := by
          intro i
          rw [sl_e hi (fun x i g => g.2.1.1)]
          exact ⟨fun z => z.elim False.elim (fun ⟨x, z1, z2⟩ => by rw [z1]; exact z2), fun z => Or.inr ⟨i, rfl, z⟩⟩
        refine br_t (Int32.le_refl _) ?_
        by_cases q : ∃ i, bt f i = true
        · have q2 : ∃ x, fd_T (fe_E n kd th el) (fe_st n) h x := by
            obtain ⟨i, hi3⟩ := q
            exact ⟨i, (hi2 i).mp hi3⟩
          refine br_f (fun z => (sl_z f).mp z q) (ys_has (by omega) (fun z => nm_r (nI_1 h) (hJ0 (fun w => z ((hd.1 b).mpr (fd_Le.mpr w).2.1)))) (fun z => ?_))
          have mb := (hd.1 b).mp z
          by_cases eh : b = h
          · exact br_t (by rw [eh]) (y1 (fd_Le.mp ⟨q2, mb, Or.inl eh⟩))
          · refine br_f (fun w => eh ((nI_eq (by omega) (by omega)).mp w)) (ys_com ok rl (st := fun x => x = b) (av := fun x => x = h) (sl_sg (by omega)) (Or.inr ⟨h, by omega, rfl, fun i => Iff.rfl⟩) (fun r hr => ?_))
            by_cases w : ∃ i, bt r i = true ∧ bt f i = true
            · refine br_f (fun w' => (sl_me r f).mp w' w) (y1 (fd_Le.mp ⟨q2, mb, Or.inr (Or.inl ?_)⟩))
              obtain ⟨i, w1, w2⟩ := w
              exact ⟨i, (hr i).mp w1, (hi2 i).mp w2⟩
            · refine br_t ((sl_me r f).mpr w) (ys_has (by omega) (fun w2 => y0 (fun g => ?_)) (fun w2 => y1 (fd_Le.mp ⟨q2, mb, Or.inr (Or.inr ((hi2 b).mp w2))⟩)))
              rcases (fd_Le.mpr g).2.2 with g1 | ⟨t, g1, g2⟩ | g1
              · exact eh g1
              · exact w ⟨t, (hr t).mpr g1, (hi2 t).mpr g2⟩
              · exact w2 ((hi2 b).mpr g1)
        · refine br_t ((sl_z f).mpr q) (nm_r (nI_1 h) (hJ0 (fun g => ?_)))
          obtain ⟨⟨x, hx⟩, _⟩ := g
          exact q ⟨x, (hi2 x).mpr hx⟩
      · refine br_f (nI_ge (by omega) (by omega)) (ys_nxt ok rl (by omega) (fun r hr => ys_has (by omega) (fun z => nm_r (nI_1 j) (ih (j + 1) f (by omega) (by omega) (sl_n hi (fun i g => z ((hr h).mpr g.2.1))))) (fun z => ?_)))
        refine ys_isN ok hd lh (by omega) (fun w => br_t rfl (nm_r (nI_1 j) (ih (j + 1) f (by omega) (by omega) (sl_n hi (fun i g => w g.2.2))))) (fun w => br_f (by decide) ?_)
        intro y ey
        refine nm_r (nI_1 j) (ih (j + 1) y (by omega) (by omega) (sl_1 hi (fun i => ?_)))
        rw [ey, sl_or, sl_sg (by omega)]
        exact or_congr Iff.rfl ⟨fun g => ⟨g, (hr h).mp z, w⟩, fun g => g.1⟩
  have L : ∀ m h, h ≤ n → n - h < m → wY_depth_21 post (nI b) (nI n) (nI k) ym' yr yb yl sz op rs fi se kd us f1 f2 yv nd ru' eg yg nw yo yw m (nI (fa_cn (fa_pc (fun h => fd_L (fe_E n kd th el) (fe_st n) h b)) h)) (nI h) := by
    intro m
    induction m with
    | zero => intro j _ h; omega
    | succ m ih =>
      intro h hh hm
      by_cases e : h = n
      · subst e
        exact br_t (Int32.le_refl _) (h1 b lb rfl ym' ru')
      · have := ih (h + 1) (by omega) (by omega)
        refine br_f (nI_ge (by omega) (by omega)) ⟨n + 1, L2 _ _ h (by omega) (fun q => ?_) (fun q => ?_) (n + 1) 0 0 (by omega) (by omega) (sl_00 (fun _ z => z))⟩
        · rw [fa_cn1 (p := fa_pc (fun h => fd_L (fe_E n kd th el) (fe_st n) h b)) (m := h) (fa_pt.mpr q)] at this
          rw [nI_1]
          exact this
        · rw [fa_cn0 (p := fa_pc (fun h => fd_L (fe_E n kd th el) (fe_st n) h b)) (m := h) (fun z => q (fa_pt.mp z))] at this
          exact this
  exact ⟨n + 1, L (n + 1) 0 (by omega) (by omega)⟩
end
end
section
theorem xs_or0 (x : Int32) : x ||| 0 = x := fa_ext (fun i => by rw [sl_or]; exact ⟨fun z => z.elim id (fun y => absurd y (sl_no i)), Or.inl⟩)
theorem xs_0or (x : Int32) : 0 ||| x = x := fa_ext (fun i => by rw [sl_or]; exact ⟨fun z => z.elim (fun y => absurd y (sl_no i)) id, Or.inr⟩)
theorem xs_ora (x y z : Int32) : (x ||| y) ||| z = x ||| (y ||| z) := fa_ext (fun i => by rw [sl_or, sl_or, sl_or, sl_or, or_assoc])
theorem xs_m1 (x : Int32) : x + (-1) = x - 1 := (Int32.sub_eq_add_neg x 1).symm
theorem xs_neg : nI 0 - 1 < 0 := by decide
theorem xs_uf {post : Int32 → Prop} {x : Int32} {o : Nat} (ho : o < 8) (e : x = nI o) (h0 : ¬ (1 ≤ o ∧ o ≤ 6) → post 0) (h1 : 1 ≤ o ∧ o ≤ 6 → post 1) : wpX_usesFirst post x := by
  subst e
  by_cases a : o < 1
  · exact br_t (nI_lt (b := 1) a (by decide)) (h0 (by omega))
  · refine br_f (nI_nlt (b := 1) (by omega) (by omega)) ?_
    by_cases c : 6 < o
    · exact br_t (nI_lt (a := 6) c (by omega)) (h0 (by omega))
    · exact br_f (nI_nlt (a := 6) (by omega) (by decide)) (h1 (by omega))
theorem xs_u2 {post : Int32 → Prop} {x : Int32} {o : Nat} (ho : o < 8) (e : x = nI o) (h0 : ¬ (2 ≤ o ∧ o ≤ 6) → post 0) (h1 : 2 ≤ o ∧ o ≤ 6 → post 1) : wpX_usesSecond post x := by
  subst e
  by_cases a : o < 2
  · exact br_t (nI_lt (b := 2) a (by decide)) (h0 (by omega))
  · refine br_f (nI_nlt (b := 2) (by omega) (by omega)) ?_
    by_cases c : 6 < o
    · exact br_t (nI_lt (a := 6) c (by omega)) (h0 (by omega))
    · exact br_f (nI_nlt (a := 6) (by omega) (by decide)) (h1 (by omega))
theorem fe_u1 {o : Nat} (ho : o < 8) {a b : Int32} : fe_u (nI o) a b = (if 1 ≤ o ∧ o ≤ 6 then (1 : Int32) <<< (a &&& 31) else 0) ||| (if 2 ≤ o ∧ o ≤ 6 then (1 : Int32) <<< (b &&& 31) else 0) := by
  unfold fe_u
  have e1 : (if (1 : Int32) ≤ nI o ∧ nI o ≤ 6 then (1 : Int32) <<< (a &&& 31) else 0) = (if 1 ≤ o ∧ o ≤ 6 then (1 : Int32) <<< (a &&& 31) else 0) := by
    by_cases h : 1 ≤ o ∧ o ≤ 6
    · rw [if_pos h, if_pos ⟨(fe_l1 o ho).mpr h.1, (fe_l6 o ho).mpr h.2⟩]
    · rw [if_neg h, if_neg (fun z => h ⟨(fe_l1 o ho).mp z.1, (fe_l6 o ho).mp z.2⟩)]
  have e2 : (if (2 : Int32) ≤ nI o ∧ nI o ≤ 6 then (1 : Int32) <<< (b &&& 31) else 0) = (if 2 ≤ o ∧ o ≤ 6 then (1 : Int32) <<< (b &&& 31) else 0) := by
    by_cases h : 2 ≤ o ∧ o ≤ 6
    · rw [if_pos h, if_pos ⟨(fe_l2 o ho).mpr h.1, (fe_l6 o ho).mpr h.2⟩]
    · rw [if_neg h, if_neg (fun z => h ⟨(fe_l2 o ho).mp z.1, (fe_l6 o ho).mp z.2⟩)]
  rw [e1, e2]
section
variable {n k : Nat} {me ob ot oe it lr lb la : Int32} {sz kd ev th el op rs fi se dm fr lv va : Nat → Int32} {bg en : Nat → Int64}
theorem xs_w58 {post : Int32 → Prop} {q o : Nat} {w : Int32} (hq : q < 64) (ho : o < 8) (eo : op q = nI o) (hp : post (w ||| (if 2 ≤ o ∧ o ≤ 6 then (1 : Int32) <<< (se q &&& 31) else 0))) : wX_wantedBefore_58 post (nI q) w (nI n) (nI k) me ob ot oe it lr lb la sz kd ev th el op rs fi se dm fr lv bg en va := by
  have c : (nI q).toNatClampNeg = q := nI_clamp (by omega)
  have vi : vp_in (nI q) 64 := vp_in_nI hq (by omega)
  refine ⟨vi, xs_u2 ho (by rw [c]; exact eo) (fun z => br_t rfl ?_) (fun z => br_f (by decide) ⟨vi, ?_⟩)⟩
  · rw [if_neg z, xs_or0] at hp
    exact hp
  · rw [if_pos z] at hp
    intro y ey
    rw [c] at ey
    rw [ey]
    exact hp
theorem xs_w23 {post : Int32 → Prop} {q o : Nat} {w x4 : Int32} (hq : q < 64) (ho : o < 8) (eo : op q = nI o) (hp : post (fw_g ((1 : Int32) <<< (x4 &&& 31)) (fe_u (op q) (fi q) (se q)) w)) : wX_wantedBefore_23 post (nI q) w x4 (nI n) (nI k) me ob ot oe it lr lb la sz kd ev th el op rs fi se dm fr lv bg en va := by
  have c : (nI q).toNatClampNeg = q := nI_clamp (by omega)
  have vi : vp_in (nI q) 64 := vp_in_nI hq (by omega)
  rw [eo, fe_u1 ho] at hp
  unfold fw_g fw_k at hp
  rw [← xs_ora] at hp
  intro y ey
  rw [← ey] at hp
  refine ⟨vi, xs_uf ho (by rw [c]; exact eo) (fun z => br_t rfl ?_) (fun z => br_f (by decide) ⟨vi, ?_⟩)⟩
  · rw [if_neg z, xs_or0] at hp
    exact xs_w58 hq ho eo hp
  · rw [if_pos z] at hp
    intro y' ey'
    rw [c] at ey'
    rw [← ey'] at hp
    exact xs_w58 hq ho eo hp
theorem xs_wb0 (is : fe_is n sz op rs fi se) {post : Int32 → Prop} {x i s : Nat} {w : Int32} (hx : x < n) (hn : n ≤ 16) (es : sz x = nI s) (hs4 : s ≤ 4) (hi : i < s) (hp : post (fw_g (fe_m rs x i) (fe_us op fi se x i) w)) : wpX_wantedBefore post ((nI n), (nI k), me, ob, ot, oe, it, lr, lb, la, sz, kd, ev, th, el, op, rs, fi, se, dm, fr, lv, bg, en, va) (nI (4 * x + i)) w 0 := by
  obtain ⟨s', hs, es', h⟩ := is x hx
  have e := (nI_eq (by omega) (by omega)).mp (es'.symm.trans es)
  subst e
  obtain ⟨⟨o, ho, eo, _, _⟩, _⟩ := h i hi
  have c : (nI (4 * x + i)).toNatClampNeg = 4 * x + i := nI_clamp (by omega)
  refine ⟨vp_in_nI (by omega) (by omega), ?_⟩
  intro y ey
  rw [c] at ey
  refine br_t rfl (xs_w23 (by omega) ho eo ?_)
  rw [ey]
  exact hp
theorem xs_wb1 (is : fe_is n sz op rs fi se) {post : Int32 → Prop} {x i s : Nat} {w : Int32} (hx : x < n) (hn : n ≤ 16) (es : sz x = nI s) (hs4 : s ≤ 4) (hi : i < s) (hp : post (fn_X (fe_d rs) (fe_m rs) (fe_us op fi se) x i w)) : wpX_wantedBefore post ((nI n), (nI k), me, ob, ot, oe, it, lr, lb, la, sz, kd, ev, th, el, op, rs, fi, se, dm, fr, lv, bg, en, va) (nI (4 * x + i)) w 1 := by
  obtain ⟨s', hs, es', h⟩ := is x hx
  have e := (nI_eq (by omega) (by omega)).mp (es'.symm.trans es)
  subst e
  obtain ⟨⟨o, ho, eo, _, _⟩, v, hv, ev⟩ := h i hi
  have c : (nI (4 * x + i)).toNatClampNeg = 4 * x + i := nI_clamp (by omega)
  have cd : fe_d rs x i = v := by unfold fe_d; rw [ev, nI_clamp (by omega)]
  unfold fn_X at hp
  rw [cd] at hp
  refine ⟨vp_in_nI (by omega) (by omega), ?_⟩
  intro y ey
  rw [c, ev] at ey
  subst ey
  refine br_f (by decide) (xs_has (by omega) (fun z => br_t rfl ?_) (fun z => br_f (by decide) (xs_w23 (by omega) ho eo ?_)))
  · rw [if_neg z] at hp
    exact hp
  · rw [if_pos z] at hp
    unfold fe_m at hp
    rw [ev] at hp
    exact hp
theorem xs_wae (ok : fe_ok n kd th el) (hv : fe_ev n kd ev) {post : Int32 → Prop} {x : Nat} (hx : x < n) (hp : post (fe_x kd ev th el lv x)) : wpX_wantedAtExit post ((nI n), (nI k), me, ob, ot, oe, it, lr, lb, la, sz, kd, ev, th, el, op, rs, fi, se, dm, fr, lv, bg, en, va) (nI x) := by
  have hn := ok.1
  have c : (nI x).toNatClampNeg = x := nI_clamp (by omega)
  have vi : vp_in (nI x) 16 := vp_in_nI (by omega) (by omega)
  unfold fe_x at hp
  refine fe_cs ok hx (fun k0 => ?_) (fun t k1 _ ht e1 => ?_) (fun t t' k2 _ ht e1 _ ht' e2 => ?_)
  · rw [if_neg (by rw [k0]; decide), if_pos k0, if_neg (by rw [k0]; decide), xs_or0, xs_or0] at hp
    refine ⟨vi, br_f (by rw [c, k0]; decide) ⟨vi, vi, br_t (by rw [c]; exact k0) ⟨vi, br_f (by rw [c, k0]; decide) ?_⟩⟩⟩
    rw [c]
    exact hp
  · have ct : (nI t).toNatClampNeg = t := nI_clamp (by omega)
    rw [if_pos k1, if_neg (by rw [k1]; decide), if_neg (by rw [k1]; decide), xs_or0, e1, ct] at hp
    refine ⟨vi, br_t (by rw [c]; exact k1) ⟨vi, br_f (by rw [c, k1]; decide) ⟨vi, by rw [c, e1]; exact vp_in_nI (by omega) (by omega), ?_⟩⟩⟩
    intro y ey
    rw [c, e1, ct] at ey
    refine ⟨vi, br_f (by rw [c, k1]; decide) ?_⟩
    rw [ey]
    exact hp
  · have ct : (nI t).toNatClampNeg = t := nI_clamp (by omega)
    have ct' : (nI t').toNatClampNeg = t' := nI_clamp (by omega)
    rw [if_neg (by rw [k2]; decide), if_neg (by rw [k2]; decide), if_pos k2, e1, ct, e2, ct'] at hp
    refine ⟨vi, br_f (by rw [c, k2]; decide) ⟨vi, vi, br_f (by rw [c, k2]; decide) ⟨vi, by rw [c, e1]; exact vp_in_nI (by omega) (by omega), ?_⟩⟩⟩
    intro y ey
    rw [c, e1, ct] at ey
    refine ⟨vi, br_t (by rw [c]; exact k2) ⟨vi, by rw [c, e2]; exact vp_in_nI (by omega) (by omega), ?_⟩⟩
    intro y' ey'
    rw [c, e2, ct'] at ey'
    rw [ey', ey]
    exact hp
theorem xs_wab (ok : fe_ok n kd th el) (hv : fe_ev n kd ev) {fl : Int32} {f : Nat → Int32 → Int32} {x s : Nat} (hx : x < n) (es : sz x = nI s) (hs : s ≤ 4)
    (hw : ∀ i, i < s → ∀ (w : Int32) (post : Int32 → Prop), post (f i w) → wpX_wantedBefore post ((nI n), (nI k), me, ob, ot, oe, it, lr, lb, la, sz, kd, ev, th, el, op, rs, fi, se, dm, fr, lv, bg, en, va) (nI (4 * x + i)) w fl)
    {post : Int32 → Prop} (hp : post (fw_d f (fe_x kd ev th el lv x) s s)) : wpX_wantedAtBeginning post ((nI n), (nI k), me, ob, ot, oe, it, lr, lb, la, sz, kd, ev, th, el, op, rs, fi, se, dm, fr, lv, bg, en, va) (nI x) fl := by
  unfold wpX_wantedAtBeginning
  have hn := ok.1
  have c : (nI x).toNatClampNeg = x := nI_clamp (by omega)
  have L : ∀ m j w, j ≤ s → j < m → w = fw_d f (fe_x kd ev th el lv x) s (s - j) → wX_wantedAtBeginning_16 post (nI x) fl (nI n) (nI k) me ob ot oe it lr lb la sz kd ev th el op rs fi se dm fr lv bg en va m w (nI j - 1) := by
    intro m
    induction m with
    | zero => intro j w _ h; omega
    | succ m ih =>
      intro j w hj hm hw2
      cases j with
      | zero =>
        refine br_t xs_neg ?_
        rw [hw2]
        exact hp
      | succ j =>
        rw [nI_pred]
        refine br_f (nI_pos (by omega)) ?_
        rw [xs_ix]
        refine hw j (by omega) _ _ ?_
        refine nm_r (xs_m1 _) (ih j _ (by omega) (by omega) ?_)
        have e1 : s - j = (s - (j + 1)) + 1 := by omega
        have e2 : s - 1 - (s - (j + 1)) = j := by omega
        rw [e1]
        show f j w = f (s - 1 - (s - (j + 1))) (fw_d f (fe_x kd ev th el lv x) s (s - (j + 1)))
        rw [e2, hw2]
  refine xs_wae ok hv hx ⟨vp_in_nI (by omega) (by omega), ?_⟩
  intro y ey
  rw [c, es] at ey
  subst ey
  refine ⟨s + 1, L (s + 1) s _ (by omega) (by omega) ?_⟩
  rw [Nat.sub_self]
  rfl
theorem xs_slv (hn : n ≤ 16) {W : (Nat → Int32) → Nat → Int32} (hm : fl_mo n W) {fl : Int32} (hW : ∀ lv' x, x < n → ∀ post : Int32 → Prop, post (W lv' x) → wpX_wantedAtBeginning post ((nI n), (nI k), me, ob, ot, oe, it, lr, lb, la, sz, kd, ev, th, el, op, rs, fi, se, dm, fr, lv', bg, en, va) (nI x) fl)
    {post : SX → Prop} (hp : ∀ lv', fl_ls n W lv' → post ((nI n), (nI k), me, ob, ot, oe, it, lr, lb, la, sz, kd, ev, th, el, op, rs, fi, se, dm, fr, lv', bg, en, va)) : wpX_solveLives post ((nI n), (nI k), me, ob, ot, oe, it, lr, lb, la, sz, kd, ev, th, el, op, rs, fi, se, dm, fr, lv, bg, en, va) fl := by
  have L2 : ∀ (J : Int32 → Int32 → (Nat → Int32) → (Nat → Int32) → (Nat → Int32) → (Nat → Int32) → (Nat → Int32) → (Nat → Int32) → (Nat → Int32) → (Nat → Int32) → (Nat → Int32) → (Nat → Int32) → (Nat → Int32) → (Nat → Int32) → (Nat → Int64) → (Nat → Int64) → (Nat → Int32) → Prop) (r : Nat) (L0 : Nat → Int32),
      (∀ ch lv', (ch = 0 ∨ ch = 1) → fl_in n W L0 (fun c => 0 ≤ c) lv' (¬ ch = 0) → J ch (nI (r + 1)) sz kd ev th el op rs fi se dm fr lv' bg en va) →
      ∀ m j ch lv', j ≤ n → j < m → (ch = 0 ∨ ch = 1) → fl_in n W L0 (fun c => j ≤ c) lv' (¬ ch = 0) → wX_solveLives_45 post J fl (nI r) (nI n) (nI k) me ob ot oe it lr lb la m ch (nI j - 1) sz kd ev th el op rs fi se dm fr lv' bg en va := by
    intro J r L0 hJ m
    induction m with
    | zero => intro j ch lv' _ h; omega
    | succ m ih =>
      intro j ch lv' hj hmm hch hi
      cases j with
      | zero =>
        exact br_t xs_neg (nm_r (nI_1 r) (hJ ch lv' hch hi))
      | succ j =>
        rw [nI_pred]
        have c : (nI j).toNatClampNeg = j := nI_clamp (by omega)
        have vi : vp_in (nI j) 16 := vp_in_nI (by omega) (by omega)
        have nx : ∀ ch' : Int32, (ch' = 0 ∨ ch' = 1) → (¬ ch' = 0 ↔ ¬ ch = 0 ∨ ¬ W lv' j = lv' j) →
            wX_solveLives_80 post J (wX_solveLives_45 post J fl (nI r) (nI n) (nI k) me ob ot oe it lr lb la m) fl (nI r) (nI j) (W lv' j) ch' (nI n) (nI k) me ob ot oe it lr lb la sz kd ev th el op rs fi se dm fr lv' bg en va := by
          intro ch' h1 h2
          refine ⟨vi, ?_⟩
          intro y ey
          rw [c] at ey
          subst ey
          refine nm_r (xs_m1 _) (ih j ch' _ (by omega) (by omega) h1 (fl_in1 hm hi (by omega) (fun d hd _ => ?_) h2))
          omega
        refine br_f (nI_pos (by omega)) (hW lv' j (by omega) _ ?_)
        by_cases z : ch = 0
        · refine br_t z ⟨vi, ?_⟩
          by_cases q : W lv' j = lv' j
          · refine br_t (by rw [c]; exact q) (nx 0 (Or.inl rfl) ⟨fun w => absurd rfl w, fun w => w.elim (fun y => absurd z y) (fun y => absurd q y)⟩)
          · refine br_f (by rw [c]; exact q) (nx 1 (Or.inr rfl) ⟨fun _ => Or.inr q, fun _ => by decide⟩)
        · exact br_f z (nx 1 (Or.inr rfl) ⟨fun _ => Or.inl z, fun _ => by decide⟩)
  have L1 : ∀ m r lv', 514 - fl_su lv' n < m → r ≤ fl_su lv' n → fl_lo n W lv' → fl_up n W lv' → wX_solveLives_25 post fl (nI n) (nI k) me ob ot oe it lr lb la m 1 (nI r) sz kd ev th el op rs fi se dm fr lv' bg en va := by
    intro m
    induction m with
    | zero => intro r lv' h; omega
    | succ m ih =>
      intro r lv' hmm hr h1 h2
      have hb := fl_su_b lv' n
      refine br_f (by decide) (br_f (nI_ge (b := 100000) (by omega) (by decide)) ?_)
      intro y ey
      subst ey
      refine ⟨n + 1, L2 _ r lv' (fun ch lv2 hch hi => ?_) (n + 1) n 0 lv' (by omega) (by omega) (Or.inl rfl) (fl_in0 h1 h2 (fun z => z rfl) (fun b hb z => by omega))⟩
      rcases hch with e | e
      · subst e
        cases m with
        | zero => omega
        | succ m => exact br_t rfl (hp lv2 (fl_in2 hi (fun z => z rfl) (fun b _ => Nat.zero_le b)))
      · subst e
        have h3 := hi.2.2.2.1 (by decide)
        exact ih (r + 1) lv2 (by omega) (by omega) hi.1 hi.2.1
  have L0 : ∀ m x lv', x ≤ 16 → 16 - x < m → (∀ z, z < x → lv' z = 0) → wX_solveLives_2 post fl (nI n) (nI k) me ob ot oe it lr lb la m (nI x) sz kd ev th el op rs fi se dm fr lv' bg en va := by
    intro m
    induction m with
    | zero => intro x lv' _ h; omega
    | succ m ih =>
      intro x lv' hx hmm hi
      by_cases e : x = 16
      · subst e
        have h := fl_00 (n := n) (W := W) (L := lv') (fun b hb => hi b (by omega))
        exact br_t (by decide) ⟨515, L1 515 0 lv' (by omega) (Nat.zero_le _) h.1 h.2⟩
      · have c : (nI x).toNatClampNeg = x := nI_clamp (by omega)
        refine br_f (nI_ge (b := 16) (by omega) (by decide)) ⟨vp_in_nI (by omega) (by omega), ?_⟩
        intro y ey
        rw [c] at ey
        subst ey
        refine nm_r (nI_1 x) (ih (x + 1) _ (by omega) (by omega) (fun z hz => ?_))
        by_cases ez : z = x
        · rw [ez, pk_us]
        · rw [pk_un ez]; exact hi z (by omega)
  exact ⟨17, L0 17 0 lv (by omega) (by omega) (fun z hz => absurd hz (Nat.not_lt_zero z))⟩
theorem xs_lvs (ok : fe_ok n kd th el) (hv : fe_ev n kd ev) (is : fe_is n sz op rs fi se) {post : Int32 → SX → Prop} {v1 : Int32} (h0 : (∀ j, j < n → ¬ v1 = nI j) → post (-1) ((nI n), (nI k), me, ob, ot, oe, it, lr, lb, la, sz, kd, ev, th, el, op, rs, fi, se, dm, fr, lv, bg, en, va))
    (h1 : ∀ b, b < n → v1 = nI b → ∀ lv', fl_ls n (fe_WA sz kd ev th el op rs fi se) lv' → post (lv' b) ((nI n), (nI k), me, ob, ot, oe, it, lr, lb, la, sz, kd, ev, th, el, op, rs, fi, se, dm, fr, lv', bg, en, va)) : wpX_lives post ((nI n), (nI k), me, ob, ot, oe, it, lr, lb, la, sz, kd, ev, th, el, op, rs, fi, se, dm, fr, lv, bg, en, va) v1 := by
  unfold wpX_lives
  have hn := ok.1
  refine xs_isB hn (fun z => br_t rfl (h0 z)) (fun b hlb eb => br_f (by decide) ?_)
  refine xs_slv hn (W := fe_WA sz kd ev th el op rs fi se) (fe_WAm ok hv) (fun lv' x hx post hp => ?_) (fun lv' hl => ?_)
  · obtain ⟨s, hs, es, cs, _⟩ := fe_ix is hx
    unfold fe_WA at hp
    rw [cs] at hp
    exact xs_wab ok hv hx es hs (fun i hi w post h => xs_wb0 is hx hn es hs hi h) hp
  · subst eb
    have c : (nI b).toNatClampNeg = b := nI_clamp (by omega)
    refine ⟨vp_in_nI (by omega) (by omega), ?_⟩
    rw [c]
    exact h1 b hlb rfl lv' hl
/-- X's rule for NEEDED -/
theorem fe_WXm (ok : fe_ok n kd th el) (hv : fe_ev n kd ev) (is : fe_is n sz op rs fi se) : fl_mo n (fn_WX (fe_d rs) (fe_m rs) (fe_us op fi se) (fun x => (sz x).toNatClampNeg) (fe_x kd ev th el)) := by
  intro L M hL x hx
  obtain ⟨s, hs, es, cs, h⟩ := fe_ix is hx
  refine fw_mo (fe_xm ok hv hx (fun y e => hL y (fe_El ok e))) _ (fun i hi z => fn_Xm ?_ z)
  dsimp only at hi ⊢
  rw [cs] at hi ⊢
  obtain ⟨_, v, hv2, ev2⟩ := h (s - 1 - i) (by omega)
  exact fe_mb ev2 hv2
theorem xs_ndd (ok : fe_ok n kd th el) (hv : fe_ev n kd ev) (is : fe_is n sz op rs fi se) {post : Int32 → SX → Prop} {v1 : Int32} (h0 : (∀ b, b < n → v1 = nI b → ¬ fd_M (fe_E n kd th el) (fe_st n) b) → post 0 ((nI n), (nI k), me, ob, ot, oe, it, lr, lb, la, sz, kd, ev, th, el, op, rs, fi, se, dm, fr, lv, bg, en, va))
    (h1 : ∀ b, b < n → v1 = nI b → fd_M (fe_E n kd th el) (fe_st n) b → ∀ r lv', fl_ls n (fn_WX (fe_d rs) (fe_m rs) (fe_us op fi se) (fun x => (sz x).toNatClampNeg) (fe_x kd ev th el)) lv' →
      (∀ i, bt r i = true ↔ (i < (sz b).toNatClampNeg ∧ bt (fw_d (fn_X (fe_d rs) (fe_m rs) (fe_us op fi se) b) (fe_x kd ev th el lv' b) (sz b).toNatClampNeg ((sz b).toNatClampNeg - 1 - i)) (fe_d rs b i) = true)) → post r ((nI n), (nI k), me, ob, ot, oe, it, lr, lb, la, sz, kd, ev, th, el, op, rs, fi, se, dm, fr, lv', bg, en, va)) : wpX_needed post ((nI n), (nI k), me, ob, ot, oe, it, lr, lb, la, sz, kd, ev, th, el, op, rs, fi, se, dm, fr, lv, bg, en, va) v1 := by
  unfold wpX_needed
  have hn := ok.1
  refine xs_rea ok (av := fun _ => False) (fun i => ⟨fun z => absurd z (sl_no i), False.elim⟩) (fun me' hm => ?_)
  refine xs_isB hn (fun z => br_t rfl (h0 (fun b hlb eb => absurd eb (z b hlb)))) (fun b hlb eb => br_f (by decide) ?_)
  subst eb
  refine xs_has (by omega) (fun z => br_t rfl (h0 (fun b' hlb' eb' q => z ?_))) (fun z => br_f (by decide) ?_)
  · rw [(nI_eq (by omega) (by omega)).mp eb']
    exact (hm b').mpr q
  have mb := (hm b).mp z
  refine xs_slv hn (fe_WXm ok hv is) (fun lv' x hx post hp => ?_) (fun lv' hl => ?_)
  · obtain ⟨s, hs, es, cs, _⟩ := fe_ix is hx
    unfold fn_WX at hp
    dsimp only at hp
    rw [cs] at hp
    exact xs_wab ok hv hx es hs (fun i hi w post h => xs_wb1 is hx hn es hs hi h) hp
  · obtain ⟨s, hs, es, cs, hi1⟩ := fe_ix is hlb
    have c : (nI b).toNatClampNeg = b := nI_clamp (by omega)
    have h1' := h1 b hlb rfl mb
    rw [cs] at h1'
    have L : ∀ m j f w, j ≤ s → j < m → w = fw_d (fn_X (fe_d rs) (fe_m rs) (fe_us op fi se) b) (fe_x kd ev th el lv' b) s (s - j) →
        (∀ i, bt f i = true ↔ (j ≤ i ∧ i < s ∧ bt (fw_d (fn_X (fe_d rs) (fe_m rs) (fe_us op fi se) b) (fe_x kd ev th el lv' b) s (s - 1 - i)) (fe_d rs b i) = true)) →
        wX_needed_48 post (nI b) (nI n) (nI k) me ob ot oe it lr lb la sz kd ev th el op rs fi se dm fr lv' bg en va m f w (nI j - 1) := by
      intro m
      induction m with
      | zero => intro j f w _ h; omega
      | succ m ih =>
        intro j f w hj hmm hw hf
        cases j with
        | zero =>
          refine br_t xs_neg (h1' f lv' hl (fun i => ?_))
          rw [hf i]
          exact ⟨fun q => q.2, fun q => ⟨Nat.zero_le i, q⟩⟩
        | succ j =>
          rw [nI_pred]
          obtain ⟨_, v, hv2, ev2⟩ := hi1 j (by omega)
          have c4 : (nI (4 * b + j)).toNatClampNeg = 4 * b + j := nI_clamp (by omega)
          have cd : fe_d rs b j = v := by unfold fe_d; rw [ev2, nI_clamp (by omega)]
          have e0 : s - 1 - j = s - (j + 1) := by omega
          have nx : ∀ f', (∀ i, bt f' i = true ↔ (j ≤ i ∧ i < s ∧ bt (fw_d (fn_X (fe_d rs) (fe_m rs) (fe_us op fi se) b) (fe_x kd ev th el lv' b) s (s - 1 - i)) (fe_d rs b i) = true)) →
              wX_needed_83 post (wX_needed_48 post (nI b) (nI n) (nI k) me ob ot oe it lr lb la sz kd ev th el op rs fi se dm fr lv' bg en va m) (nI b) f' w (nI j) (nI (4 * b + j)) (nI n) (nI k) me ob ot oe it lr lb la sz kd ev th el op rs fi se dm fr lv' bg en va := by
            intro f' hf'
            refine xs_wb1 is hlb hn es hs (by omega) (nm_r (xs_m1 _) (ih j f' _ (by omega) (by omega) ?_ hf'))
            have e1 : s - j = (s - (j + 1)) + 1 := by omega
            have e2 : s - 1 - (s - (j + 1)) = j := by omega
            rw [e1]
            show _ = fn_X (fe_d rs) (fe_m rs) (fe_us op fi se) b (s - 1 - (s - (j + 1))) (fw_d (fn_X (fe_d rs) (fe_m rs) (fe_us op fi se) b) (fe_x kd ev th el lv' b) s (s - (j + 1)))
            rw [e2, hw]
          refine br_f (nI_pos (by omega)) ?_
          intro y ey
          rw [xs_ix] at ey
          subst ey
          refine ⟨vp_in_nI (by omega) (by omega), ?_⟩
          rw [c4, ev2]
          refine xs_has (by omega) (fun z => br_t rfl (nx f (fun i => ?_))) (fun z => br_f (by decide) ?_)
          · rw [hf i]
            refine ⟨fun q => ⟨by omega, q.2⟩, fun q => ⟨?_, q.2⟩⟩
            have : ¬ i = j := by
              intro e
              subst e
              apply z
              have := q.2.2
              rw [e0, ← hw, cd] at this
              exact this
            omega
          · intro y ey
            refine nx y (fun i => ?_)
            rw [ey, sl_or, sl_sg (by omega), hf i]
            constructor
            · rintro (q | q)
              · exact ⟨by omega, q.2⟩
              · subst q
                refine ⟨Nat.le_refl _, by omega, ?_⟩
                rw [e0, ← hw, cd]
                exact z
            · intro q
              by_cases e : i = j
              · exact Or.inr e
              · exact Or.inl ⟨by omega, q.2⟩
    refine xs_wae ok hv hlb ⟨vp_in_nI (by omega) (by omega), ?_⟩
    intro y ey
    rw [c, es] at ey
    subst ey
    refine ⟨s + 1, L (s + 1) s 0 _ (by omega) (by omega) (by rw [Nat.sub_self]; rfl) (fun i => ⟨fun q => absurd q (sl_no i), fun q => by omega⟩)⟩
end
end
section
theorem ys_4 (x : Nat) : (4 : Int32) * nI x = nI (4 * x) := by
  show nI 4 * nI x = _
  rw [pk_mul]
section
variable {n k : Nat} {ym yr yb yl : Int32} {sz kd ev th el op rs fi se us f1 f2 yv nd ru eg yo yw : Nat → Int32} {yg nw : Nat → Int64}
theorem ys_use {post : Int32 → Prop} {q v : Nat} (hq : q < 64) (hv : v < 6) (h : fe_i1 op rs fi se q) (h0 : ¬ bt (fe_u (op q) (fi q) (se q)) v = true → post 0) (h1 : bt (fe_u (op q) (fi q) (se q)) v = true → post 1) : wpY_uses post ((nI n), (nI k), ym, yr, yb, yl, sz, op, rs, fi, se, kd, us, f1, f2, yv, nd, ru, eg, yg, nw, yo, yw) (nI q) (nI v) := by
  obtain ⟨⟨o, ho, eo, ha, hb⟩, _⟩ := h
  have c : (nI q).toNatClampNeg = q := nI_clamp (by omega)
  have vi : vp_in (nI q) 64 := vp_in_nI hq (by omega)
  have ub := fe_ub ho ha hb v
  rw [← eo] at ub
  rw [ub] at h0 h1
  by_cases o1 : o = 1
  · obtain ⟨va, hva, ea⟩ := ha (by omega) (by omega)
    have ca : (fi q).toNatClampNeg = va := by rw [ea, nI_clamp (by omega)]
    rw [ca] at h0 h1
    refine ⟨vi, br_t (by rw [c, eo, o1]; rfl) ⟨vi, ?_⟩⟩
    by_cases z : v = va
    · exact br_t (by rw [c, ea, z]) (h1 (Or.inl ⟨by omega, by omega, z⟩))
    · refine br_f (fun w => z ?_) (h0 (fun w => ?_))
      · rw [c, ea] at w
        exact ((nI_eq (by omega) (by omega)).mp w).symm
      · rcases w with w | w
        · exact z w.2.2
        · omega
  · refine ⟨vi, br_f (fun w => o1 ?_) ⟨vi, ?_⟩⟩
    · rw [c, eo] at w
      exact (nI_eq (b := 1) (by omega) (by decide)).mp w
    by_cases o0 : o = 0
    · exact br_t (by rw [c, eo, o0]; decide) (h0 (fun w => by omega))
    · refine br_f (by rw [c, eo]; exact nI_ge (a := 1) (by omega) (by omega)) ⟨vi, ?_⟩
      by_cases o7 : o = 7
      · exact br_t (by rw [c, eo, o7]; decide) (h0 (fun w => by omega))
      · refine br_f (by rw [c, eo]; exact nI_ge (b := 7) (by omega) (by decide)) ⟨vi, ?_⟩
        obtain ⟨va, hva, ea⟩ := ha (by omega) (by omega)
        obtain ⟨vb, hvb, eb⟩ := hb (by omega) (by omega)
        have ca : (fi q).toNatClampNeg = va := by rw [ea, nI_clamp (by omega)]
        have cb : (se q).toNatClampNeg = vb := by rw [eb, nI_clamp (by omega)]
        rw [ca, cb] at h0 h1
        by_cases z : v = va
        · exact br_t (by rw [c, ea, z]) (h1 (Or.inl ⟨by omega, by omega, z⟩))
        · refine br_f (fun w => z ?_) ⟨vi, ?_⟩
          · rw [c, ea] at w
            exact ((nI_eq (by omega) (by omega)).mp w).symm
          by_cases z2 : v = vb
          · exact br_t (by rw [c, eb, z2]) (h1 (Or.inr ⟨by omega, by omega, z2⟩))
          · refine br_f (fun w => z2 ?_) (h0 (fun w => ?_))
            · rw [c, eb] at w
              exact ((nI_eq (by omega) (by omega)).mp w).symm
            · rcases w with w | w
              · exact z w.2.2
              · exact z2 w.2.2
theorem ys_136 {post : Int32 → Prop} {J : Int32 → Int32 → Prop} {x1 x2 x3 x5 : Int32} {q : Nat} {w0 : Int32} (hq : q < 64) (h : fe_i1 op rs fi se q) (hJ : J (w0 ||| fe_u (op q) (fi q) (se q)) (x5 - 1)) : ∃ m, wY_before_136 post J x1 x2 x3 x5 (nI q) 1 (nI n) (nI k) ym yr yb yl sz op rs fi se kd us f1 f2 yv nd ru eg yg nw yo yw m w0 0 := by
  have L : ∀ m j f, j ≤ 6 → 6 - j < m → sl_in (fun i => bt w0 i = true) (fun v i => i = v ∧ (v < 6 ∧ bt (fe_u (op q) (fi q) (se q)) v = true)) j f → wY_before_136 post J x1 x2 x3 x5 (nI q) 1 (nI n) (nI k) ym yr yb yl sz op rs fi se kd us f1 f2 yv nd ru eg yg nw yo yw m f (nI j) := by
    intro m
    induction m with
    | zero => intro j f _ h; omega
    | succ m ih =>
      intro j f hj hm hi
      by_cases e : j = 6
      · subst e
        refine br_t (by decide) (nm_r (xs_m1 _) ?_)
        have : f = w0 ||| fe_u (op q) (fi q) (se q) := by
          apply fa_ext
          intro i
          rw [sl_e hi (fun x i g => g.2.1), sl_or]
          refine or_congr Iff.rfl ⟨fun ⟨x, z1, z2, z3⟩ => by rw [z1]; exact z3, fun z => ⟨i, rfl, ?_, z⟩⟩
          obtain ⟨⟨o, ho, eo, ha, hb⟩, _⟩ := h
          rw [eo, fe_ub ho ha hb i] at z
          rcases z with ⟨z1, z2, z3⟩ | ⟨z1, z2, z3⟩
          · obtain ⟨va, hva, ea⟩ := ha z1 z2
            rw [ea, nI_clamp (by omega)] at z3
            omega
          · obtain ⟨va, hva, ea⟩ := hb z1 z2
            rw [ea, nI_clamp (by omega)] at z3
            omega
        rw [this]
        exact hJ
      · refine br_f (nI_ge (b := 6) (by omega) (by decide)) (br_f (by decide) (ys_use hq (by omega) h (fun z => br_t rfl (nm_r (nI_1 j) (ih (j + 1) f (by omega) (by omega) (sl_n hi (fun i g => z g.2.2))))) (fun z => br_f (by decide) ?_)))
        intro y ey
        refine nm_r (nI_1 j) (ih (j + 1) y (by omega) (by omega) (sl_1 hi (fun i => ?_)))
        rw [ey, sl_or, sl_sg (by omega)]
        exact or_congr Iff.rfl ⟨fun g => ⟨g, by omega, z⟩, fun g => g.1⟩
  exact ⟨7, L 7 0 w0 (by omega) (by omega) (sl_0 (fun i => Iff.rfl))⟩
theorem ys_bef (ok : fe_ok n kd th el) (hv : fe_ev n kd ev) (rl : fe_rl n kd ev th el us f1 f2) {fl : Int32} {f : Nat → Int32 → Int32} {x s p : Nat} (hx : x < n) (es : sz x = nI s) (hs : s ≤ 4) (hin : ∀ i, i < s → fe_i1 op rs fi se (4 * x + i)) (hpl : p ≤ s)
    (hf : (fl = 1 ∧ ∀ i w, f i w = fw_g (fe_m rs x i) (fe_us op fi se x i) w) ∨ (fl = 0 ∧ ∀ i w, f i w = fn_N (fe_m rs) (fe_us op fi se) nd x i w))
    {post : Int32 → Prop} (hp : post (fw_d f (fe_x kd ev th el yv x) s (s - p))) : wpY_before post ((nI n), (nI k), ym, yr, yb, yl, sz, op, rs, fi, se, kd, us, f1, f2, yv, nd, ru, eg, yg, nw, yo, yw) (nI x) (nI p) fl := by
  have hn := ok.1
  have c : (nI x).toNatClampNeg = x := nI_clamp (by omega)
  have vi : vp_in (nI x) 16 := vp_in_nI (by omega) (by omega)
  have L2 : ∀ m j w, p ≤ j → j ≤ s → j < m → w = fw_d f (fe_x kd ev th el yv x) s (s - j) → wY_before_78 post (nI x) (nI p) fl (nI n) (nI k) ym yr yb yl sz op rs fi se kd us f1 f2 yv nd ru eg yg nw yo yw m w (nI j - 1) := by
    intro m
    induction m with
    | zero => intro j w _ _ h; omega
    | succ m ih =>
      intro j w h1 h2 hm hw
      by_cases e : j = p
      · subst e
        refine br_t ?_ (by rw [hw]; exact hp)
        cases j with
        | zero => decide
        | succ j => rw [nI_pred]; exact nI_lt (by omega) (by omega)
      · cases j with
        | zero => omega
        | succ j =>
          rw [nI_pred]
          have hin' := hin j (by omega)
          refine br_f (nI_nlt (by omega) (by omega)) ?_
          intro y ey
          rw [ys_4, nI_add] at ey
          subst ey
          refine ⟨vp_in_nI (by omega) (by omega), ?_⟩
          intro w1 ew1
          rw [nI_clamp (by omega)] at ew1
          have ew2 : w1 = fw_k (fe_m rs x j) w := ew1
          have nxt : f j w = fw_d f (fe_x kd ev th el yv x) s (s - j) := by
            have e1 : s - j = (s - (j + 1)) + 1 := by omega
            have e2 : s - 1 - (s - (j + 1)) = j := by omega
            rw [e1]
            show f j w = f (s - 1 - (s - (j + 1))) (fw_d f (fe_x kd ev th el yv x) s (s - (j + 1)))
            rw [e2, hw]
          rcases hf with ⟨hfl, hf⟩ | ⟨hfl, hf⟩
          · refine br_f (by rw [hfl]; decide) (ys_136 (by omega) hin' (ih j _ (by omega) (by omega) (by omega) ?_))
            rw [← nxt, hf j w, ew2]
            rfl
          · refine br_t hfl ⟨vi, ys_has (by omega) (fun z => ⟨1, br_f (by decide) (br_t rfl (nm_r (xs_m1 _) (ih j _ (by omega) (by omega) (by omega) ?_)))⟩) (fun z => ys_136 (by omega) hin' (ih j _ (by omega) (by omega) (by omega) ?_))⟩
            · rw [c] at z
              rw [← nxt, hf j w, ew2]
              unfold fn_N
              rw [if_neg z]
            · rw [c] at z
              rw [← nxt, hf j w, ew2]
              unfold fn_N
              rw [if_pos z]
              rfl
  have L : ∀ m j g, j ≤ n → n - j < m → sl_in (fun _ => False) (fun y i => (fe_E n kd th el) x y ∧ bt (yv y) i = true) j g → wY_before_6 post (nI x) (nI p) fl (nI n) (nI k) ym yr yb yl sz op rs fi se kd us f1 f2 yv nd ru eg yg nw yo yw m g (nI j) := by
    intro m
    induction m with
    | zero => intro j g _ h; omega
    | succ m ih =>
      intro j g hj hm hi
      by_cases e : j = n
      · have e' := e.symm
        subst e'
        have hi2 := sl_e hi (fun y i q => fe_El ok q.1)
        refine br_t (Int32.le_refl _) ⟨vi, ?_⟩
        have q := rl x hx
        have hxb := fe_xb ok hv hx yv
        by_cases k1 : kd x = 1
        · refine br_t (by rw [c, q.1 k1]; decide) ⟨vi, ?_⟩
          intro y ey
          rw [c, es] at ey
          subst ey
          refine ⟨s + 1, L2 (s + 1) s g hpl (by omega) (by omega) ?_⟩
          rw [Nat.sub_self]
          apply fa_ext
          intro i
          show bt g i = true ↔ bt (fe_x kd ev th el yv x) i = true
          rw [hi2 i, hxb i]
          exact ⟨fun z => z.elim False.elim Or.inr, fun z => z.elim (fun w => absurd k1 w.1) Or.inr⟩
        · obtain ⟨v, hv2, ev2⟩ := hv x hx k1
          have eu : us x = nI v := (q.2.1 k1).trans ev2
          refine br_f (by rw [c, eu]; exact nI_pos (by omega)) ⟨vi, ?_⟩
          intro g2 eg2
          rw [c, eu] at eg2
          refine ⟨vi, ?_⟩
          intro y ey
          rw [c, es] at ey
          subst ey
          refine ⟨s + 1, L2 (s + 1) s g2 hpl (by omega) (by omega) ?_⟩
          rw [Nat.sub_self]
          apply fa_ext
          intro i
          show bt g2 i = true ↔ bt (fe_x kd ev th el yv x) i = true
          rw [eg2, sl_or, hi2 i, hxb i, sl_sg (by omega), ev2, nI_clamp (by omega)]
          constructor
          · rintro ((z | z) | z)
            · exact z.elim
            · exact Or.inr z
            · exact Or.inl ⟨k1, z⟩
          · rintro (z | z)
            · exact Or.inr z.2
            · exact Or.inl (Or.inr z)
      · have cj : (nI j).toNatClampNeg = j := nI_clamp (by omega)
        refine br_f (nI_ge (by omega) (by omega)) (ys_nxt ok rl hx (fun r hr => ys_has (by omega) (fun z => nm_r (nI_1 j) (ih (j + 1) g (by omega) (by omega) (sl_n hi (fun i q => z ((hr j).mpr q.1))))) (fun z => ⟨vp_in_nI (by omega) (by omega), ?_⟩)))
        intro y ey
        rw [cj] at ey
        refine nm_r (nI_1 j) (ih (j + 1) y (by omega) (by omega) (sl_1 hi (fun i => ?_)))
        rw [ey, sl_or]
        exact or_congr Iff.rfl ⟨fun w => ⟨(hr j).mp z, w⟩, fun w => w.2⟩
  exact ⟨n + 1, L (n + 1) 0 0 (by omega) (by omega) (sl_00 (fun _ z => z))⟩
theorem ys_slv (hn : n ≤ 16) {W : (Nat → Int32) → Nat → Int32} (hm : fl_mo n W) {fl : Int32} (hW : ∀ yv' x, x < n → ∀ post : Int32 → Prop, post (W yv' x) → wpY_before post ((nI n), (nI k), ym, yr, yb, yl, sz, op, rs, fi, se, kd, us, f1, f2, yv', nd, ru, eg, yg, nw, yo, yw) (nI x) 0 fl)
    {post : SY → Prop} (hp : ∀ yv', fl_ls n W yv' → post ((nI n), (nI k), ym, yr, yb, yl, sz, op, rs, fi, se, kd, us, f1, f2, yv', nd, ru, eg, yg, nw, yo, yw)) : wpY_live post ((nI n), (nI k), ym, yr, yb, yl, sz, op, rs, fi, se, kd, us, f1, f2, yv, nd, ru, eg, yg, nw, yo, yw) fl := by
  have L2 : ∀ (J : Int32 → (Nat → Int32) → (Nat → Int32) → (Nat → Int32) → (Nat → Int32) → (Nat → Int32) → (Nat → Int32) → (Nat → Int32) → (Nat → Int32) → (Nat → Int32) → (Nat → Int32) → (Nat → Int32) → (Nat → Int32) → (Nat → Int32) → (Nat → Int64) → (Nat → Int64) → (Nat → Int32) → (Nat → Int32) → Prop) (L0 : Nat → Int32),
      (∀ ch yv', (ch = 0 ∨ ch = 1) → fl_in n W L0 (fun c => c < n) yv' (¬ ch = 0) → J ch sz op rs fi se kd us f1 f2 yv' nd ru eg yg nw yo yw) →
      ∀ m j ch yv', j ≤ n → n - j < m → (ch = 0 ∨ ch = 1) → fl_in n W L0 (fun c => c < j) yv' (¬ ch = 0) → wY_live_31 post J fl (nI n) (nI k) ym yr yb yl m ch (nI j) sz op rs fi se kd us f1 f2 yv' nd ru eg yg nw yo yw := by
    intro J L0 hJ m
    induction m with
    | zero => intro j ch yv' _ h; omega
    | succ m ih =>
      intro j ch yv' hj hmm hch hi
      by_cases e : j = n
      · have e' := e.symm
        subst e'
        exact br_t (Int32.le_refl _) (hJ ch yv' hch hi)
      · have c : (nI j).toNatClampNeg = j := nI_clamp (by omega)
        have vi : vp_in (nI j) 16 := vp_in_nI (by omega) (by omega)
        have nx : ∀ ch' : Int32, (ch' = 0 ∨ ch' = 1) → (¬ ch' = 0 ↔ ¬ ch = 0 ∨ ¬ W yv' j = yv' j) → ∀ y, y = upd yv' (nI j).toNatClampNeg (W yv' j) → wY_live_31 post J fl (nI n) (nI k) ym yr yb yl m ch' (nI (j + 1)) sz op rs fi se kd us f1 f2 y nd ru eg yg nw yo yw := by
          intro ch' h1 h2 y ey
          rw [c] at ey
          subst ey
          refine ih (j + 1) ch' _ (by omega) (by omega) h1 (fl_in1 hm hi (by omega) (fun d hd _ => ?_) h2)
          omega
        refine br_f (nI_ge (by omega) (by omega)) (hW yv' j (by omega) _ ⟨vi, ?_⟩)
        by_cases q : W yv' j = yv' j
        · refine br_t (by rw [c]; exact q) ⟨vi, fun y ey => nm_r (nI_1 j) (nx ch hch ⟨fun w => Or.inl w, fun w => w.elim id (fun y => absurd q y)⟩ y ey)⟩
        · refine br_f (by rw [c]; exact q) ⟨vi, fun y ey => nm_r (nI_1 j) (nx 1 (Or.inr rfl) ⟨fun _ => Or.inr q, fun _ => by decide⟩ y ey)⟩
  have L1 : ∀ m yv', 514 - fl_su yv' n < m → fl_lo n W yv' → fl_up n W yv' → wY_live_23 post fl (nI n) (nI k) ym yr yb yl m 1 sz op rs fi se kd us f1 f2 yv' nd ru eg yg nw yo yw := by
    intro m
    induction m with
    | zero => intro yv' h; omega
    | succ m ih =>
      intro yv' hmm h1 h2
      have hb := fl_su_b yv' n
      refine br_f (by decide) ⟨n + 1, L2 _ yv' (fun ch lv2 hch hi => ?_) (n + 1) 0 0 yv' (by omega) (by omega) (Or.inl rfl) (fl_in0 h1 h2 (fun z => z rfl) (fun b hb z => by omega))⟩
      rcases hch with e | e
      · subst e
        cases m with
        | zero => omega
        | succ m => exact br_t rfl (hp lv2 (fl_in2 hi (fun z => z rfl) (fun b hb => hb)))
      · subst e
        have h3 := hi.2.2.2.1 (by decide)
        exact ih lv2 (by omega) hi.1 hi.2.1
  have L0 : ∀ m x yv', x ≤ 16 → 16 - x < m → (∀ z, z < x → yv' z = 0) → wY_live_2 post fl (nI n) (nI k) ym yr yb yl m (nI x) sz op rs fi se kd us f1 f2 yv' nd ru eg yg nw yo yw := by
    intro m
    induction m with
    | zero => intro x yv' _ h; omega
    | succ m ih =>
      intro x yv' hx hmm hi
      by_cases e : x = 16
      · subst e
        have h := fl_00 (n := n) (W := W) (L := yv') (fun b hb => hi b (by omega))
        exact br_t (by decide) ⟨515, L1 515 yv' (by omega) h.1 h.2⟩
      · have c : (nI x).toNatClampNeg = x := nI_clamp (by omega)
        refine br_f (nI_ge (b := 16) (by omega) (by decide)) ⟨vp_in_nI (by omega) (by omega), ?_⟩
        intro y ey
        rw [c] at ey
        subst ey
        refine nm_r (nI_1 x) (ih (x + 1) _ (by omega) (by omega) (fun z hz => ?_))
        by_cases ez : z = x
        · rw [ez, pk_us]
        · rw [pk_un ez]; exact hi z (by omega)
  exact ⟨17, L0 17 0 yv (by omega) (by omega) (fun z hz => absurd hz (Nat.not_lt_zero z))⟩
theorem ys_lvs (ok : fe_ok n kd th el) (hv : fe_ev n kd ev) (rl : fe_rl n kd ev th el us f1 f2) (is : fe_is n sz op rs fi se) {post : Int32 → SY → Prop} {v1 : Int32} (h0 : (∀ j, j < n → ¬ v1 = nI j) → post (-1) ((nI n), (nI k), ym, yr, yb, yl, sz, op, rs, fi, se, kd, us, f1, f2, yv, nd, ru, eg, yg, nw, yo, yw))
    (h1 : ∀ b, b < n → v1 = nI b → ∀ yv', fl_ls n (fe_WA sz kd ev th el op rs fi se) yv' → post (yv' b) ((nI n), (nI k), ym, yr, yb, yl, sz, op, rs, fi, se, kd, us, f1, f2, yv', nd, ru, eg, yg, nw, yo, yw)) : wpY_lives post ((nI n), (nI k), ym, yr, yb, yl, sz, op, rs, fi, se, kd, us, f1, f2, yv, nd, ru, eg, yg, nw, yo, yw) v1 := by
  unfold wpY_lives
  have hn := ok.1
  refine ys_out n (by omega) (fun z => br_f (by decide) (h0 z)) (fun b hlb eb => br_t rfl ?_)
  refine ys_slv hn (W := fe_WA sz kd ev th el op rs fi se) (fe_WAm ok hv) (fun yv' x hx post hp => ?_) (fun yv' hl => ?_)
  · obtain ⟨s, hs, es, cs, hin⟩ := fe_ix is hx
    unfold fe_WA at hp
    rw [cs] at hp
    exact ys_bef ok hv rl (p := 0) hx es hs hin (Nat.zero_le _) (Or.inl ⟨rfl, fun i w => rfl⟩) hp
  · subst eb
    have c : (nI b).toNatClampNeg = b := nI_clamp (by omega)
    refine ⟨vp_in_nI (by omega) (by omega), ?_⟩
    rw [c]
    exact h1 b hlb rfl yv' hl
end
end
section
section
variable {n k : Nat} {ym yr yb yl : Int32} {sz kd ev th el op rs fi se us f1 f2 yv nd ru eg yo yw : Nat → Int32} {yg nw : Nat → Int64}
theorem fe_x0 (ok : fe_ok n kd th el) (hv : fe_ev n kd ev) : ∀ L M b, b < n → fl_le n L M → fa_sb (fe_x kd ev th el L b) (fe_x kd ev th el M b) :=
  fun _ _ _ hb h => fe_xm ok hv hb (fun y e => h y (fe_El ok e))
theorem fe_x1 (ok : fe_ok n kd th el) (hv : fe_ev n kd ev) : ∀ L M b, b < n → fd_M (fe_E n kd th el) (fe_st n) b → (∀ c, c < n → fd_M (fe_E n kd th el) (fe_st n) c → fa_sb (L c) (M c)) → fa_sb (fe_x kd ev th el L b) (fe_x kd ev th el M b) :=
  fun _ _ _ hb mb h => fe_xm ok hv hb (fun y e => h y (fe_El ok e) (fd_Ms mb e))
theorem fe_WNm (ok : fe_ok n kd th el) (hv : fe_ev n kd ev) (N : Nat → Int32) : fl_mo n (fn_WN (fe_m rs) (fe_us op fi se) (fun x => (sz x).toNatClampNeg) (fe_x kd ev th el) N) := by
  intro L M hL x hx
  exact fw_mo (fe_x0 ok hv L M x hx hL) _ (fun i _ z => fn_Nm (fa_sb_r _) z)
/-- the last round: nothing new -/
def ys_fin (n : Nat) (sz kd ev th el op rs fi se : Nat → Int32) (b : Nat) (r : Int32) : Prop :=
  ∃ N LY, fn_I (fe_d rs) (fe_m rs) (fe_us op fi se) (fun x => (sz x).toNatClampNeg) (fe_x kd ev th el) n (fd_M (fe_E n kd th el) (fe_st n)) N ∧
    fl_ls n (fn_WN (fe_m rs) (fe_us op fi se) (fun x => (sz x).toNatClampNeg) (fe_x kd ev th el) N) LY ∧
    (∀ x, x < n → fn_S (fe_d rs) (fe_m rs) (fe_us op fi se) (fun x => (sz x).toNatClampNeg) (fe_x kd ev th el) (fd_M (fe_E n kd th el) (fe_st n)) N LY x (N x)) ∧ r = N b
theorem ys_n54 (ok : fe_ok n kd th el) (hv : fe_ev n kd ev) (rl : fe_rl n kd ev th el us f1 f2) (is : fe_is n sz op rs fi se) (hd : ys_dom n kd th el ym ru) {N : Nat → Int32} {post : Int32 → SY → Prop}
    {J27 : Int32 → Int32 → Int32 → Int32 → Int32 → Int32 → Int32 → (Nat → Int32) → (Nat → Int32) → (Nat → Int32) → (Nat → Int32) → (Nat → Int32) → (Nat → Int32) → (Nat → Int32) → (Nat → Int32) → (Nat → Int32) → (Nat → Int32) → (Nat → Int32) → (Nat → Int32) → (Nat → Int32) → (Nat → Int64) → (Nat → Int64) → (Nat → Int32) → (Nat → Int32) → Prop}
    {J40 : Int32 → Int32 → (Nat → Int32) → (Nat → Int32) → (Nat → Int32) → (Nat → Int32) → (Nat → Int32) → (Nat → Int32) → (Nat → Int32) → (Nat → Int32) → (Nat → Int32) → (Nat → Int32) → (Nat → Int32) → (Nat → Int32) → (Nat → Int32) → (Nat → Int64) → (Nat → Int64) → (Nat → Int32) → (Nat → Int32) → Prop}
    {x1 x2 : Int32} {x : Nat} (hx : x < n) (eN : nd x = N x)
    (hJ : ∀ c, fn_S (fe_d rs) (fe_m rs) (fe_us op fi se) (fun x => (sz x).toNatClampNeg) (fe_x kd ev th el) (fd_M (fe_E n kd th el) (fe_st n)) N yv x c → ∀ ch : Int32, (c = N x → ch = x2) → (¬ c = N x → ch = 1) → J40 ch (nI (x + 1)) sz op rs fi se kd us f1 f2 yv (upd nd x (N x ||| c)) ru eg yg nw yo yw) :
    ∃ m, wY_needed_54 post J27 J40 x1 x2 (nI x) (nI n) (nI k) ym yr yb yl sz op rs fi se kd us f1 f2 yv nd ru eg yg nw yo yw m 0 0 := by
  have hn := ok.1
  obtain ⟨s, hs, es, cs, hin⟩ := fe_ix is hx
  have c : (nI x).toNatClampNeg = x := nI_clamp (by omega)
  have vi : vp_in (nI x) 16 := vp_in_nI (by omega) (by omega)
  have y135 : ∀ (c ch : Int32), fn_S (fe_d rs) (fe_m rs) (fe_us op fi se) (fun x => (sz x).toNatClampNeg) (fe_x kd ev th el) (fd_M (fe_E n kd th el) (fe_st n)) N yv x c → (c = N x → ch = x2) → (¬ c = N x → ch = 1) → wY_needed_135 post J27 J40 x1 ch (nI x) c (nI n) (nI k) ym yr yb yl sz op rs fi se kd us f1 f2 yv nd ru eg yg nw yo yw := by
    intro c' ch h1 h2 h3
    refine ⟨vi, vi, ?_⟩
    intro y ey
    rw [c, eN] at ey
    subst ey
    exact nm_r (nI_1 x) (hJ c' h1 ch h2 h3)
  have L : ∀ m j f, j ≤ s → s - j < m → sl_in (fun _ => False) (fun q i => i = q ∧ (q < s ∧ fd_M (fe_E n kd th el) (fe_st n) x ∧ bt (fw_d (fn_N (fe_m rs) (fe_us op fi se) N x) (fe_x kd ev th el yv x) s (s - 1 - q)) (fe_d rs x q) = true)) j f →
      wY_needed_54 post J27 J40 x1 x2 (nI x) (nI n) (nI k) ym yr yb yl sz op rs fi se kd us f1 f2 yv nd ru eg yg nw yo yw m f (nI j) := by
    intro m
    induction m with
    | zero => intro j f _ h; omega
    | succ m ih =>
      intro j f hj hm hi
      by_cases e : j = s
      · subst e
        have hS : fn_S (fe_d rs) (fe_m rs) (fe_us op fi se) (fun x => (sz x).toNatClampNeg) (fe_x kd ev th el) (fd_M (fe_E n kd th el) (fe_st n)) N yv x f := by
          intro i
          rw [sl_e hi (fun q i g => g.2.1)]
          dsimp only
          rw [cs]
          exact ⟨fun z => z.elim False.elim (fun ⟨q, g1, g2⟩ => by rw [g1]; exact g2), fun z => Or.inr ⟨i, rfl, z⟩⟩
        refine ⟨vi, br_t (by rw [c, es]; exact Int32.le_refl _) ⟨vi, ?_⟩⟩
        by_cases q : f = N x
        · exact br_t (by rw [c, eN]; exact q) (y135 f x2 hS (fun _ => rfl) (fun z => absurd q z))
        · exact br_f (by rw [c, eN]; exact q) (y135 f 1 hS (fun z => absurd z q) (fun _ => rfl))
      · obtain ⟨hcl, v, hv2, ev2⟩ := hin j (by omega)
        clear hcl
        have cd : fe_d rs x j = v := by unfold fe_d; rw [ev2, nI_clamp (by omega)]
        have e4 : (4 : Int32) * nI x + nI j = nI (4 * x + j) := by rw [ys_4, nI_add]
        have c4 : (nI (4 * x + j)).toNatClampNeg = 4 * x + j := nI_clamp (by omega)
        refine ⟨vi, br_f (by rw [c, es]; exact nI_ge (by omega) (by omega)) ?_⟩
        rw [nI_1 j]
        refine ys_bef ok hv rl (p := j + 1) (f := fn_N (fe_m rs) (fe_us op fi se) N x) hx es hs hin (by omega) (Or.inr ⟨rfl, fun i w => ?_⟩) ⟨by rw [e4]; exact vp_in_nI (by omega) (by omega), ?_⟩
        · unfold fn_N
          rw [eN]
        · rw [e4, c4, ev2]
          have e0 : s - 1 - j = s - (j + 1) := by omega
          refine ys_has (by omega) (fun z => nm_r rfl (ih (j + 1) f (by omega) (by omega) (sl_n hi (fun i g => ?_)))) (fun z => ?_)
          · have g3 := g.2.2.2
            rw [e0, cd] at g3
            exact z g3
          · refine ys_has (by omega) (fun w => nm_r rfl (ih (j + 1) f (by omega) (by omega) (sl_n hi (fun i g => w ((hd.1 x).mpr g.2.2.1))))) (fun w => ?_)
            intro y ey
            refine nm_r rfl (ih (j + 1) y (by omega) (by omega) (sl_1 hi (fun i => ?_)))
            rw [ey, sl_or, sl_sg (by omega)]
            refine or_congr Iff.rfl ⟨fun g => ⟨g, by omega, (hd.1 x).mp w, ?_⟩, fun g => g.1⟩
            rw [e0, cd]
            exact z
  exact ⟨s + 1, L (s + 1) 0 0 (by omega) (by omega) (sl_00 (fun _ z => z))⟩
theorem ys_ndd (ok : fe_ok n kd th el) (hv : fe_ev n kd ev) (rl : fe_rl n kd ev th el us f1 f2) (is : fe_is n sz op rs fi se) {post : Int32 → SY → Prop} {v1 : Int32}
    (h0 : ∀ ym' ru' nd' yv', (∀ j, j < n → ¬ v1 = nI j) → post 0 ((nI n), (nI k), ym', yr, yb, yl, sz, op, rs, fi, se, kd, us, f1, f2, yv', nd', ru', eg, yg, nw, yo, yw))
    (h1 : ∀ b, b < n → v1 = nI b → ∀ r ym' ru' nd' yv', ys_fin n sz kd ev th el op rs fi se b r → post r ((nI n), (nI k), ym', yr, yb, yl, sz, op, rs, fi, se, kd, us, f1, f2, yv', nd', ru', eg, yg, nw, yo, yw)) : wpY_needed post ((nI n), (nI k), ym, yr, yb, yl, sz, op, rs, fi, se, kd, us, f1, f2, yv, nd, ru, eg, yg, nw, yo, yw) v1 := by
  unfold wpY_needed
  have hn := ok.1
  refine ys_lok ok rl (fun ym' ru' hd => ?_)
  have L1 : ∀ m N yv0, 514 - fl_su N n < m → fn_I (fe_d rs) (fe_m rs) (fe_us op fi se) (fun x => (sz x).toNatClampNeg) (fe_x kd ev th el) n (fd_M (fe_E n kd th el) (fe_st n)) N →
      wY_needed_27 post v1 m 1 (nI n) (nI k) ym' yr yb yl sz op rs fi se kd us f1 f2 yv0 N ru' eg yg nw yo yw := by
    intro m
    induction m with
    | zero => intro N yv0 h; omega
    | succ m ih =>
      intro N yv0 hmm hI
      have hb := fl_su_b N n
      refine br_f (by decide) ?_
      refine ys_slv hn (W := fn_WN (fe_m rs) (fe_us op fi se) (fun x => (sz x).toNatClampNeg) (fe_x kd ev th el) N) (fe_WNm ok hv N) (fun yv' x hx post hp => ?_) (fun LY hY => ?_)
      · obtain ⟨s, hs, es, cs, hin⟩ := fe_ix is hx
        unfold fn_WN at hp
        dsimp only at hp
        rw [cs] at hp
        exact ys_bef ok hv rl (p := 0) hx es hs hin (Nat.zero_le _) (Or.inr ⟨rfl, fun i w => rfl⟩) hp
      · have hgr : ∀ x, x < n → ∀ c, fn_S (fe_d rs) (fe_m rs) (fe_us op fi se) (fun x => (sz x).toNatClampNeg) (fe_x kd ev th el) (fd_M (fe_E n kd th el) (fe_st n)) N LY x c → N x ||| c = c := by
          intro x hx c hc
          apply fa_ext
          intro i
          rw [sl_or]
          exact ⟨fun z => z.elim (hI.1 LY hY x hx c hc i) id, Or.inr⟩
        have L2 : ∀ q j ch N', j ≤ n → n - j < q → (∀ y, y < j → fn_S (fe_d rs) (fe_m rs) (fe_us op fi se) (fun x => (sz x).toNatClampNeg) (fe_x kd ev th el) (fd_M (fe_E n kd th el) (fe_st n)) N LY y (N' y)) → (∀ y, j ≤ y → N' y = N y) →
            ((ch = 0 ∧ ∀ y, y < j → N' y = N y) ∨ (ch = 1 ∧ ∃ y, y < j ∧ ¬ N' y = N y)) →
            wY_needed_40 post (wY_needed_27 post v1 m) v1 (nI n) (nI k) ym' yr yb yl q ch (nI j) sz op rs fi se kd us f1 f2 LY N' ru' eg yg nw yo yw := by
          intro q
          induction q with
          | zero => intro j ch N' _ h; omega
          | succ q ihq =>
            intro j ch N' hj hq hS hU hch
            by_cases e : j = n
            · have e' := e.symm
              subst e'
              refine br_t (Int32.le_refl _) ?_
              rcases hch with ⟨ec, hc⟩ | ⟨ec, y, hy, hc⟩
              · subst ec
                cases m with
                | zero => omega
                | succ m =>
                  refine br_t rfl (ys_out n (by omega) (fun z => br_f (by decide) (h0 ym' ru' N' LY z)) (fun b hlb eb => br_t rfl ?_))
                  subst eb
                  have c : (nI b).toNatClampNeg = b := nI_clamp (by omega)
                  refine ⟨vp_in_nI (by omega) (by omega), ?_⟩
                  rw [c]
                  refine h1 b hlb rfl _ ym' ru' N' LY ⟨N, LY, hI, hY, fun x hx => ?_, hc b hlb⟩
                  rw [← hc x hx]
                  exact hS x hx
              · subst ec
                have hle : fl_le n N N' := fun x hx => hI.1 LY hY x hx _ (hS x hx)
                have h3 := fl_su_l hc n hy hle
                exact ih N' LY (by omega) (fn_I1 (fe_x0 ok hv) (fe_x1 ok hv) hI hY hS)
            · refine br_f (nI_ge (by omega) (by omega)) ?_
              refine ys_n54 ok hv rl is hd (N := N) (by omega) (hU j (Nat.le_refl _)) (fun c hc ch' h2 h3 => ?_)
              refine ihq (j + 1) ch' _ (by omega) (by omega) ?_ ?_ ?_
              · intro y hy
                by_cases ey : y = j
                · subst ey
                  rw [pk_us, hgr y (by omega) c hc]
                  exact hc
                · rw [pk_un ey]
                  exact hS y (by omega)
              · intro y hy
                rw [pk_un (by omega)]
                exact hU y (by omega)
              · by_cases z : c = N j
                · rw [h2 z]
                  rcases hch with ⟨ec, hc2⟩ | ⟨ec, y, hy, hc2⟩
                  · refine Or.inl ⟨ec, fun y hy => ?_⟩
                    by_cases ey : y = j
                    · subst ey
                      rw [pk_us, hgr y (by omega) c hc]
                      exact z
                    · rw [pk_un ey]
                      exact hc2 y (by omega)
                  · refine Or.inr ⟨ec, y, by omega, ?_⟩
                    rw [pk_un (by omega)]
                    exact hc2
                · refine Or.inr ⟨h3 z, j, by omega, ?_⟩
                  rw [pk_us, hgr j (by omega) c hc]
                  exact z
        exact ⟨n + 1, L2 (n + 1) 0 0 N (by omega) (by omega) (fun y hy => absurd hy (Nat.not_lt_zero y)) (fun y _ => rfl) (Or.inl ⟨rfl, fun y hy => absurd hy (Nat.not_lt_zero y)⟩)⟩
  have L0 : ∀ m x nd', x ≤ 16 → 16 - x < m → (∀ z, z < x → nd' z = 0) → wY_needed_6 post v1 (nI n) (nI k) ym' yr yb yl m (nI x) sz op rs fi se kd us f1 f2 yv nd' ru' eg yg nw yo yw := by
    intro m
    induction m with
    | zero => intro x nd' _ h; omega
    | succ m ih =>
      intro x nd' hx hmm hi
      by_cases e : x = 16
      · subst e
        exact br_t (by decide) ⟨515, L1 515 nd' yv (by omega) (fn_I0 (fun z hz => hi z (by omega)))⟩
      · have c : (nI x).toNatClampNeg = x := nI_clamp (by omega)
        refine br_f (nI_ge (b := 16) (by omega) (by decide)) ⟨vp_in_nI (by omega) (by omega), ?_⟩
        intro y ey
        rw [c] at ey
        subst ey
        refine nm_r (nI_1 x) (ih (x + 1) _ (by omega) (by omega) (fun z hz => ?_))
        by_cases ez : z = x
        · rw [ez, pk_us]
        · rw [pk_un ez]; exact hi z (by omega)
  exact ⟨17, L0 17 0 nd (by omega) (by omega) (fun z hz => absurd hz (Nat.not_lt_zero z))⟩
end
end
section
theorem xv_6 (b v : Nat) : nI b * 6 + nI v = nI (6 * b + v) := by
  show nI b * nI 6 + nI v = _
  rw [pk_mul, nI_add, Nat.mul_comm]
theorem xv_60 (b : Nat) : nI b * 6 = nI (6 * b) := by
  show nI b * nI 6 = _
  rw [pk_mul, Nat.mul_comm]
theorem xv_o {o : Nat} (h2 : 2 ≤ o) (h6 : o ≤ 6) : o = 2 ∨ o = 3 ∨ o = 4 ∨ o = 5 ∨ o = 6 := by omega
theorem xv_wo {post : Int32 → Prop} {o : Nat} {x y : Int32} (h2 : 2 ≤ o) (h6 : o ≤ 6) (hp : post (fz_w (nI o) x y)) : wpX_workedOut post (nI o) x y := by
  unfold fz_w at hp
  rcases xv_o h2 h6 with e | e | e | e | e
  · subst e
    rw [if_pos (by decide)] at hp
    exact br_f (by decide) (br_f (by decide) (br_t (by decide) hp))
  · subst e
    rw [if_neg (by decide), if_pos (by decide)] at hp
    exact br_f (by decide) (br_f (by decide) (br_f (by decide) (br_t (by decide) hp)))
  · subst e
    rw [if_neg (by decide), if_neg (by decide), if_pos (by decide)] at hp
    exact br_f (by decide) (br_f (by decide) (br_f (by decide) (br_f (by decide) (br_t (by decide) hp))))
  · subst e
    rw [if_neg (by decide), if_neg (by decide), if_neg (by decide), if_pos (by decide)] at hp
    refine br_f (by decide) (br_f (by decide) (br_f (by decide) (br_f (by decide) (br_f (by decide) (br_t (by decide) (br_c (fun z => ?_) (fun z => ?_)))))))
    · rw [if_neg (Int32.not_lt.mpr z)] at hp
      exact hp
    · rw [if_pos (Int32.not_le.mp z)] at hp
      exact hp
  · subst e
    rw [if_neg (by decide), if_neg (by decide), if_neg (by decide), if_neg (by decide)] at hp
    refine br_f (by decide) (br_f (by decide) (br_f (by decide) (br_f (by decide) (br_f (by decide) (br_f (by decide) (br_t (by decide) (br_c (fun z => ?_) (fun z => ⟨z, ?_⟩))))))))
    · rw [if_pos z] at hp
      exact hp
    · rw [if_neg z] at hp
      exact hp
theorem xv_jn {post : Int64 → Prop} {x y : Int64} (hp : post (fz_j x y)) : wpX_join post x y := by
  unfold fz_j at hp
  by_cases h1 : x = fz_N
  · rw [if_pos (Or.inl h1)] at hp
    exact br_t h1 hp
  · by_cases h2 : x = y
    · rw [if_pos (Or.inr h2)] at hp
      exact br_f h1 (br_t h2 hp)
    · rw [if_neg (fun z => z.elim h1 h2)] at hp
      exact br_f h1 (br_f h2 hp)
/-- what the class holds of p -/
def xv_ag (p : (Nat → Int64) × (Nat → Bool)) (bg : Nat → Int64) (ob : Int32) : Prop := (∀ j, j < 96 → bg j = p.1 j) ∧ (∀ i, bt ob i = p.2 i)
section
variable {n k : Nat} {me ob ot oe it lr lb la : Int32} {sz kd ev th el op rs fi se dm fr lv va : Nat → Int32} {bg en : Nat → Int64}
theorem xv_vs {post : Int64 → Prop} {q b : Nat} {nw : Nat → Int64} (hq : q < 64) (hb : b < 16) (h : fe_i1 op rs fi se q) (hw : ∀ v, v < 6 → en (6 * b + v) = nw v) (hp : post (fz_v (op q) (fi q) (se q) nw)) : wpX_valueSetBy post ((nI n), (nI k), me, ob, ot, oe, it, lr, lb, la, sz, kd, ev, th, el, op, rs, fi, se, dm, fr, lv, bg, en, va) (nI q) (nI (6 * b)) := by
  obtain ⟨⟨o, ho, eo, ha, hc⟩, _⟩ := h
  have c : (nI q).toNatClampNeg = q := nI_clamp (by omega)
  have vi : vp_in (nI q) 64 := vp_in_nI hq (by omega)
  unfold fz_v at hp
  refine ⟨vi, ?_⟩
  intro y ey
  rw [c, eo] at ey
  subst ey
  rw [eo] at hp
  by_cases o7 : o = 7
  · subst o7
    rw [if_pos (by decide)] at hp
    exact br_t (by decide) hp
  have n7 : ¬ nI o = 7 := fun z => o7 ((nI_eq (b := 7) (by omega) (by decide)).mp z)
  rw [if_neg n7] at hp
  refine br_f n7 ?_
  by_cases o0 : o = 0
  · subst o0
    rw [if_pos (by decide)] at hp
    refine br_t (by decide) ⟨vi, ?_⟩
    rw [c]
    exact hp
  have n0 : ¬ nI o = 0 := fun z => o0 ((nI_eq (b := 0) (by omega) (by decide)).mp z)
  rw [if_neg n0] at hp
  obtain ⟨wa, hva, ea⟩ := ha (by omega) (by omega)
  have ia : nI (6 * b) + fi (nI q).toNatClampNeg = nI (6 * b + wa) := by rw [c, ea, nI_add]
  have ca : (nI (6 * b + wa)).toNatClampNeg = 6 * b + wa := nI_clamp (by omega)
  rw [ea, nI_clamp (by omega : wa < 2 ^ 31)] at hp
  refine br_f n0 ⟨vi, by rw [ia]; exact vp_in_nI (by omega) (by omega), ?_⟩
  intro x ex
  rw [ia, ca, hw wa hva] at ex
  subst ex
  by_cases o1 : o = 1
  · subst o1
    rw [if_pos (by decide)] at hp
    exact br_t (by decide) hp
  have n1 : ¬ nI o = 1 := fun z => o1 ((nI_eq (b := 1) (by omega) (by decide)).mp z)
  rw [if_neg n1] at hp
  obtain ⟨wb, hvb, eb⟩ := hc (by omega) (by omega)
  have ib : nI (6 * b) + se (nI q).toNatClampNeg = nI (6 * b + wb) := by rw [c, eb, nI_add]
  have cb : (nI (6 * b + wb)).toNatClampNeg = 6 * b + wb := nI_clamp (by omega)
  rw [eb, nI_clamp (by omega : wb < 2 ^ 31)] at hp
  refine br_f n1 ⟨vi, by rw [ib]; exact vp_in_nI (by omega) (by omega), ?_⟩
  intro y ey
  rw [ib, cb, hw wb hvb] at ey
  subst ey
  have w88 : (¬ (nI o = 4 ∧ (nw wa = 0 ∨ nw wb = 0))) → wX_valueSetBy_88 post (nI o) (nw wa) (nw wb) (nI n) (nI k) me ob ot oe it lr lb la sz kd ev th el op rs fi se dm fr lv bg en va := by
    intro nz
    rw [if_neg nz] at hp
    by_cases z1 : nw wa = fz_V
    · rw [if_pos (Or.inl z1)] at hp
      exact br_t z1 hp
    · by_cases z2 : nw wb = fz_V
      · rw [if_pos (Or.inr z2)] at hp
        exact br_f z1 (br_t z2 hp)
      · rw [if_neg (fun z => z.elim z1 z2)] at hp
        exact br_f z1 (br_f z2 (xv_wo (by omega) (by omega) hp))
  by_cases o4 : nI o = 4
  · refine br_t o4 ?_
    by_cases z1 : nw wa = 0
    · rw [if_pos ⟨o4, Or.inl z1⟩] at hp
      exact br_t z1 hp
    · refine br_f z1 ?_
      by_cases z2 : nw wb = 0
      · rw [if_pos ⟨o4, Or.inr z2⟩] at hp
        exact br_t z2 hp
      · exact br_f z2 (w88 (fun z => z.2.elim z1 z2))
  · exact br_f o4 (w88 (fun z => o4 z.1))
theorem xv_wt (hn : n ≤ 16) (is : fe_is n sz op rs fi se) {post : SX → Prop} {b : Nat} {B : Nat → Int64} (hb : b < n) (hB : ∀ v, v < 6 → bg (6 * b + v) = B (6 * b + v))
    (hp : ∀ en', (∀ v, v < 6 → en' (6 * b + v) = fz_en sz op rs fi se B b v) → (∀ j, (j < 6 * b ∨ 6 * b + 6 ≤ j) → en' j = en j) → post ((nI n), (nI k), me, ob, ot, oe, it, lr, lb, la, sz, kd, ev, th, el, op, rs, fi, se, dm, fr, lv, bg, en', va)) : wpX_workThrough post ((nI n), (nI k), me, ob, ot, oe, it, lr, lb, la, sz, kd, ev, th, el, op, rs, fi, se, dm, fr, lv, bg, en, va) (nI b) := by
  obtain ⟨s, hs, es, cs, hin⟩ := fe_ix is hb
  have c : (nI b).toNatClampNeg = b := nI_clamp (by omega)
  have vi : vp_in (nI b) 16 := vp_in_nI (by omega) (by omega)
  unfold fz_en at hp
  rw [cs] at hp
  have L2 : ∀ m i en', i ≤ s → s - i < m → (∀ v, v < 6 → en' (6 * b + v) = fz_th op rs fi se (4 * b) (fz_bg B b) i v) → (∀ j, (j < 6 * b ∨ 6 * b + 6 ≤ j) → en' j = en j) →
      wX_workThrough_37 post (nI b) (nI (6 * b)) (nI n) (nI k) me ob ot oe it lr lb la m (nI i) sz kd ev th el op rs fi se dm fr lv bg en' va := by
    intro m
    induction m with
    | zero => intro i en' _ h; omega
    | succ m ih =>
      intro i en' hi hm h1 h2
      by_cases e : i = s
      · subst e
        exact ⟨vi, br_t (by rw [c, es]; exact Int32.le_refl _) (hp en' h1 h2)⟩
      · have hin' := hin i (by omega)
        obtain ⟨hcl, v, hv, ev2⟩ := hin'
        clear hcl
        refine ⟨vi, br_f (by rw [c, es]; exact nI_ge (by omega) (by omega)) ?_⟩
        intro y ey
        rw [xs_ix] at ey
        subst ey
        have c4 : (nI (4 * b + i)).toNatClampNeg = 4 * b + i := nI_clamp (by omega)
        refine ⟨vp_in_nI (by omega) (by omega), xv_vs (by omega) (by omega) (hin i (by omega)) h1 ⟨?_, ?_⟩⟩
        · rw [c4, ev2, nI_add]
          exact vp_in_nI (by omega) (by omega)
        · intro y ey
          rw [c4, ev2, nI_add, nI_clamp (by omega)] at ey
          subst ey
          refine nm_r (nI_1 i) (ih (i + 1) _ (by omega) (by omega) (fun w hw => ?_) (fun j hj => ?_))
          · show vp_updL _ _ _ _ = vp_updL _ _ _ _
            rw [ev2, nI_clamp (by omega)]
            by_cases ew : w = v
            · rw [ew, pk_uLs, pk_uLs]
            · rw [pk_uLn (by omega), pk_uLn ew]
              exact h1 w hw
          · rw [pk_uLn (by omega)]
            exact h2 j hj
  have L1 : ∀ m v en', v ≤ 6 → 6 - v < m → (∀ w, w < v → en' (6 * b + w) = B (6 * b + w)) → (∀ j, (j < 6 * b ∨ 6 * b + 6 ≤ j) → en' j = en j) →
      wX_workThrough_7 post (nI b) (nI (6 * b)) (nI n) (nI k) me ob ot oe it lr lb la m (nI v) sz kd ev th el op rs fi se dm fr lv bg en' va := by
    intro m
    induction m with
    | zero => intro i en' _ h; omega
    | succ m ih =>
      intro v en' hv hm h1 h2
      by_cases e : v = 6
      · subst e
        refine br_t (by decide) ⟨s + 1, L2 (s + 1) 0 en' (by omega) (by omega) (fun w hw => ?_) h2⟩
        show en' (6 * b + w) = fz_bg B b w
        unfold fz_bg
        rw [if_pos hw]
        exact h1 w hw
      · have c6 : (nI (6 * b + v)).toNatClampNeg = 6 * b + v := nI_clamp (by omega)
        have v6 : vp_in (nI (6 * b) + nI v) 96 := by rw [nI_add]; exact vp_in_nI (by omega) (by omega)
        refine br_f (nI_ge (b := 6) (by omega) (by decide)) ⟨v6, v6, ?_⟩
        intro y ey
        rw [nI_add, c6] at ey
        subst ey
        refine nm_r (nI_1 v) (ih (v + 1) _ (by omega) (by omega) (fun w hw => ?_) (fun j hj => ?_))
        · by_cases ew : w = v
          · rw [ew, pk_uLs]
            exact hB v (by omega)
          · rw [pk_uLn (by omega)]
            exact h1 w (by omega)
        · rw [pk_uLn (by omega)]
          exact h2 j hj
  intro y ey
  rw [xv_60] at ey
  subst ey
  exact ⟨7, L1 7 0 en (by omega) (by omega) (fun w hw => absurd hw (Nat.not_lt_zero w)) (fun j _ => rfl)⟩
theorem xv_sto {post : Int32 → SX → Prop} {b t : Nat} {p : (Nat → Int64) × (Nat → Bool)} {nw : Nat → Int64} (hb : b < 16) (ht : t < 16) (ag : xv_ag p bg ob) (hw : ∀ v, v < 6 → en (6 * b + v) = nw v) (hok : ∀ v, fz_ok (nw v))
    (hp : ∀ r bg' ob', (r = 0 ∨ r = 1) → xv_ag (fz_sp t nw p) bg' ob' → (r = 0 → fz_sp t nw p = p) → (r = 1 → fz_mu p < fz_mu (fz_sp t nw p)) → post r ((nI n), (nI k), me, ob', ot, oe, it, lr, lb, la, sz, kd, ev, th, el, op, rs, fi, se, dm, fr, lv, bg', en, va)) : wpX_spreadTo post ((nI n), (nI k), me, ob, ot, oe, it, lr, lb, la, sz, kd, ev, th, el, op, rs, fi, se, dm, fr, lv, bg, en, va) (nI b) (nI t) := by
  have hmu := fz_sp_mu (p := p) ht hok
  have L : ∀ ob', (∀ i, bt ob' i = (fz_sp t nw p).2 i) → ∀ m v ch bg', v ≤ 6 → 6 - v < m → (ch = 0 ∨ ch = 1) → (∀ w, w < v → bg' (6 * t + w) = fz_j (p.1 (6 * t + w)) (nw w)) → (∀ j, j < 96 → (j < 6 * t ∨ 6 * t + v ≤ j) → bg' j = p.1 j) →
      (ch = 0 ↔ (p.2 t = true ∧ ∀ w, w < v → fz_j (p.1 (6 * t + w)) (nw w) = p.1 (6 * t + w))) → wX_spreadTo_32 post (nI b) (nI t) (nI n) (nI k) me ob' ot oe it lr lb la m ch (nI v) sz kd ev th el op rs fi se dm fr lv bg' en va := by
    intro ob' hob m
    induction m with
    | zero => intro v ch bg' _ h; omega
    | succ m ih =>
      intro v ch bg' hv hm hch h1 h2 h3
      by_cases e : v = 6
      · subst e
        refine br_t (by decide) ⟨by rcases hch with z | z <;> rw [z] <;> rfl, hp ch bg' ob' hch ⟨fun j hj => ?_, hob⟩ (fun z => ?_) (fun z => hmu.2 ?_)⟩
        · unfold fz_sp
          dsimp only
          by_cases q : 6 * t ≤ j ∧ j < 6 * t + 6
          · rw [if_pos q]
            have := h1 (j - 6 * t) (by omega)
            have e2 : 6 * t + (j - 6 * t) = j := by omega
            rw [e2] at this
            exact this
          · rw [if_neg q]
            exact h2 j hj (by omega)
        · have z2 := h3.mp z
          exact fz_sp_eq z2.1 z2.2
        · apply Classical.byContradiction
          intro w
          have : ch = 0 := by
            refine h3.mpr ⟨?_, fun v hv => ?_⟩
            · cases hpt : p.2 t
              · exact absurd (Or.inl hpt) w
              · rfl
            · apply Classical.byContradiction
              intro w2
              exact w (Or.inr ⟨v, hv, w2⟩)
          rw [this] at z
          exact absurd z (by decide)
      · have c6 : (nI (6 * t + v)).toNatClampNeg = 6 * t + v := nI_clamp (by omega)
        have cb : (nI (6 * b + v)).toNatClampNeg = 6 * b + v := nI_clamp (by omega)
        have v6 : vp_in (nI (6 * t + v)) 96 := vp_in_nI (by omega) (by omega)
        have ebg : bg' (6 * t + v) = p.1 (6 * t + v) := h2 _ (by omega) (by omega)
        have nx : ∀ ch' : Int32, (ch' = 0 ∨ ch' = 1) → (ch' = 0 ↔ (ch = 0 ∧ fz_j (p.1 (6 * t + v)) (nw v) = p.1 (6 * t + v))) →
            wX_spreadTo_94 post (wX_spreadTo_32 post (nI b) (nI t) (nI n) (nI k) me ob' ot oe it lr lb la m) (nI b) (nI t) (nI v) (nI (6 * t + v)) (fz_j (p.1 (6 * t + v)) (nw v)) ch' (nI n) (nI k) me ob' ot oe it lr lb la sz kd ev th el op rs fi se dm fr lv bg' en va := by
          intro ch' h4 h5
          refine ⟨v6, ?_⟩
          intro y ey
          rw [c6] at ey
          subst ey
          refine nm_r (nI_1 v) (ih (v + 1) ch' _ (by omega) (by omega) h4 (fun w hw => ?_) (fun j hj hj2 => ?_) ?_)
          · by_cases ew : w = v
            · rw [ew, pk_uLs]
            · rw [pk_uLn (by omega)]
              exact h1 w (by omega)
          · rw [pk_uLn (by omega)]
            exact h2 j hj (by omega)
          · rw [h5, h3]
            constructor
            · rintro ⟨⟨z1, z2⟩, z3⟩
              refine ⟨z1, fun w hw => ?_⟩
              by_cases ew : w = v
              · rw [ew]; exact z3
              · exact z2 w (by omega)
            · rintro ⟨z1, z2⟩
              exact ⟨⟨z1, fun w hw => z2 w (by omega)⟩, z2 v (by omega)⟩
        refine br_f (nI_ge (b := 6) (by omega) (by decide)) ?_
        intro y ey
        rw [xv_6] at ey
        subst ey
        refine ⟨v6, by rw [xv_6]; exact vp_in_nI (by omega) (by omega), ?_⟩
        rw [c6, ebg, xv_6, cb, hw v (by omega)]
        refine xv_jn ?_
        by_cases z : ch = 0
        · refine br_t z ⟨v6, ?_⟩
          by_cases q : fz_j (p.1 (6 * t + v)) (nw v) = p.1 (6 * t + v)
          · exact br_t q (nx 0 (Or.inl rfl) ⟨fun _ => ⟨z, q⟩, fun _ => rfl⟩)
          · exact br_f q (nx 1 (Or.inr rfl) ⟨fun w => absurd w (by decide), fun w => absurd w.2 q⟩)
        · exact br_f z (nx 1 (Or.inr rfl) ⟨fun w => absurd w (by decide), fun w => absurd w.1 z⟩)
  have hob : ∀ y, y = ob ||| ((1 : Int32) <<< (nI t &&& 31)) → ∀ i, bt y i = (fz_sp t nw p).2 i := by
    intro y ey i
    apply Bool.eq_iff_iff.mpr
    rw [ey, sl_or, sl_sg (by omega), ag.2 i, fz_sp3]
  unfold wpX_spreadTo
  refine xs_has (by omega) (fun z => br_t rfl ?_) (fun z => br_f (by decide) ?_)
  · intro y ey
    refine ⟨7, L y (hob y ey) 7 0 1 bg (by omega) (by omega) (Or.inr rfl) (fun w hw => absurd hw (Nat.not_lt_zero w)) (fun j hj _ => ag.1 j hj) ⟨fun w => absurd w (by decide), fun w => ?_⟩⟩
    rw [← ag.2 t] at w
    exact absurd w.1 z
  · intro y ey
    refine ⟨7, L y (hob y ey) 7 0 0 bg (by omega) (by omega) (Or.inl rfl) (fun w hw => absurd hw (Nat.not_lt_zero w)) (fun j hj _ => ag.1 j hj) ⟨fun _ => ⟨?_, fun w hw => absurd hw (Nat.not_lt_zero w)⟩, fun _ => rfl⟩⟩
    rw [← ag.2 t]
    exact z
end
end
section
section
variable {n k : Nat} {me ob ot oe it lr lb la : Int32} {sz kd ev th el op rs fi se dm fr lv va : Nat → Int32} {bg en : Nat → Int64}
theorem xv_110 (ok : fe_ok n kd th el) {post : Int32 → SX → Prop} {b : Nat} {p p1 : (Nat → Int64) × (Nat → Bool)} {nw : Nat → Int64} (hb : b < n) (ag : xv_ag p1 bg ob) (hw : ∀ v, v < 6 → en (6 * b + v) = nw v) (hok : ∀ v, fz_ok (nw v))
    {x3 x4 : Int32} (h3 : (x3 = 0 ∧ ¬ fz_l2 kd b (nw (ev b).toNatClampNeg)) ∨ (x3 = 1 ∧ fz_l2 kd b (nw (ev b).toNatClampNeg))) (h4 : x4 = 0 ∨ x4 = 1) (h40 : x4 = 0 → p1 = p) (h41 : x4 = 1 → fz_mu p < fz_mu p1)
    (hp : ∀ r bg' ob' oe', (r = 0 ∨ r = 1) → xv_ag (fz_s2 kd ev el b nw p1) bg' ob' → (r = 0 → fz_s2 kd ev el b nw p1 = p) → (r = 1 → fz_mu p < fz_mu (fz_s2 kd ev el b nw p1)) →
      (∀ i, bt oe' i = true ↔ (bt oe i = true ∨ (i = b ∧ fz_l2 kd b (nw (ev b).toNatClampNeg)))) → post r ((nI n), (nI k), me, ob', ot, oe', it, lr, lb, la, sz, kd, ev, th, el, op, rs, fi, se, dm, fr, lv, bg', en, va)) : wX_spreadFrom_110 post (nI b) x3 x4 (nI n) (nI k) me ob ot oe it lr lb la sz kd ev th el op rs fi se dm fr lv bg en va := by
  have hn := ok.1
  have c : (nI b).toNatClampNeg = b := nI_clamp (by omega)
  unfold fz_s2 at hp
  rcases h3 with ⟨e3, h3⟩ | ⟨e3, h3⟩
  · rw [if_neg h3] at hp
    refine br_t e3 ⟨by rcases h4 with z | z <;> rw [z] <;> rfl, hp x4 bg ob oe h4 ag h40 h41 (fun i => ⟨Or.inl, fun z => z.elim id (fun y => absurd y.2 h3)⟩)⟩
  · rw [if_pos h3] at hp
    obtain ⟨t, _, ht, et⟩ := (ok.2 b hb).2.2 h3.1
    have ct : (el b).toNatClampNeg = t := by rw [et, nI_clamp (by omega)]
    rw [ct] at hp
    refine br_f (by rw [e3]; decide) ?_
    intro y ey
    have hy : ∀ i, bt y i = true ↔ (bt oe i = true ∨ (i = b ∧ fz_l2 kd b (nw (ev b).toNatClampNeg))) := by
      intro i
      rw [ey, sl_or, sl_sg (by omega)]
      exact or_congr Iff.rfl ⟨fun z => ⟨z, h3⟩, fun z => z.1⟩
    refine ⟨vp_in_nI (by omega) (by omega), ?_⟩
    rw [c, et]
    have hmu := (fz_sp_mu (p := p1) (nw := nw) (t := t) (by omega) hok).1
    refine xv_sto (by omega) (by omega) ag hw hok (fun r bg' ob' hr ag' h0 h1 => ?_)
    rcases h4 with z | z
    · refine br_t z ?_
      rcases hr with q | q
      · exact br_t q (hp 0 bg' ob' y (Or.inl rfl) ag' (fun _ => (h0 q).trans (h40 z)) (fun w => absurd w (by decide)) hy)
      · refine br_f (by rw [q]; decide) (hp 1 bg' ob' y (Or.inr rfl) ag' (fun w => absurd w (by decide)) (fun _ => ?_) hy)
        have := h1 q
        rw [h40 z] at this ⊢
        exact this
    · refine br_f (by rw [z]; decide) (hp 1 bg' ob' y (Or.inr rfl) ag' (fun w => absurd w (by decide)) (fun _ => ?_) hy)
      have := h41 z
      omega
theorem xv_78 (ok : fe_ok n kd th el) {post : Int32 → SX → Prop} {b : Nat} {p : (Nat → Int64) × (Nat → Bool)} {nw : Nat → Int64} (hb : b < n) (ag : xv_ag p bg ob) (hw : ∀ v, v < 6 → en (6 * b + v) = nw v) (hok : ∀ v, fz_ok (nw v))
    {x2 x3 : Int32} (h2 : (x2 = 0 ∧ ¬ fz_lt kd b (nw (ev b).toNatClampNeg)) ∨ (x2 = 1 ∧ fz_lt kd b (nw (ev b).toNatClampNeg))) (h3 : (x3 = 0 ∧ ¬ fz_l2 kd b (nw (ev b).toNatClampNeg)) ∨ (x3 = 1 ∧ fz_l2 kd b (nw (ev b).toNatClampNeg)))
    (hp : ∀ r bg' ob' ot' oe', (r = 0 ∨ r = 1) → xv_ag (fz_s2 kd ev el b nw (fz_s1 kd ev th b nw p)) bg' ob' → (r = 0 → fz_s2 kd ev el b nw (fz_s1 kd ev th b nw p) = p) → (r = 1 → fz_mu p < fz_mu (fz_s2 kd ev el b nw (fz_s1 kd ev th b nw p))) →
      (∀ i, bt ot' i = true ↔ (bt ot i = true ∨ (i = b ∧ fz_lt kd b (nw (ev b).toNatClampNeg)))) →
      (∀ i, bt oe' i = true ↔ (bt oe i = true ∨ (i = b ∧ fz_l2 kd b (nw (ev b).toNatClampNeg)))) → post r ((nI n), (nI k), me, ob', ot', oe', it, lr, lb, la, sz, kd, ev, th, el, op, rs, fi, se, dm, fr, lv, bg', en, va)) : wX_spreadFrom_78 post (nI b) x2 x3 (nI n) (nI k) me ob ot oe it lr lb la sz kd ev th el op rs fi se dm fr lv bg en va := by
  have hn := ok.1
  have c : (nI b).toNatClampNeg = b := nI_clamp (by omega)
  have e1 : fz_s1 kd ev th b nw p = if fz_lt kd b (nw (ev b).toNatClampNeg) then fz_sp (th b).toNatClampNeg nw p else p := rfl
  rcases h2 with ⟨e2, h2⟩ | ⟨e2, h2⟩
  · rw [if_neg h2] at e1
    rw [e1] at hp
    refine br_t e2 (xv_110 ok hb ag hw hok h3 (Or.inl rfl) (fun _ => rfl) (fun z => absurd z (by decide)) (fun r bg' ob' oe' a1 a2 a3 a4 a5 => ?_))
    exact hp r bg' ob' ot oe' a1 a2 a3 a4 (fun i => ⟨Or.inl, fun z => z.elim id (fun y => absurd y.2 h2)⟩) a5
  · rw [if_pos h2] at e1
    obtain ⟨t, _, ht, et⟩ := (ok.2 b hb).2.1 (fz_ltn h2)
    have ct : (th b).toNatClampNeg = t := by rw [et, nI_clamp (by omega)]
    rw [ct] at e1
    rw [e1] at hp
    refine br_f (by rw [e2]; decide) ?_
    intro y ey
    have hy : ∀ i, bt y i = true ↔ (bt ot i = true ∨ (i = b ∧ fz_lt kd b (nw (ev b).toNatClampNeg))) := by
      intro i
      rw [ey, sl_or, sl_sg (by omega)]
      exact or_congr Iff.rfl ⟨fun z => ⟨z, h2⟩, fun z => z.1⟩
    refine ⟨vp_in_nI (by omega) (by omega), ?_⟩
    rw [c, et]
    refine xv_sto (by omega) (by omega) ag hw hok (fun r bg' ob' hr ag' h0 h1 => ?_)
    exact xv_110 ok hb ag' hw hok h3 hr h0 h1 (fun r bg' ob' oe' a1 a2 a3 a4 a5 => hp r bg' ob' y oe' a1 a2 a3 a4 hy a5)
theorem xv_sfr (ok : fe_ok n kd th el) (hev : fe_ev n kd ev) {post : Int32 → SX → Prop} {b : Nat} {p : (Nat → Int64) × (Nat → Bool)} {nw : Nat → Int64} (hb : b < n) (ag : xv_ag p bg ob) (hw : ∀ v, v < 6 → en (6 * b + v) = nw v) (hok : ∀ v, fz_ok (nw v))
    (hp : ∀ r bg' ob' ot' oe', (r = 0 ∨ r = 1) → xv_ag (fz_s2 kd ev el b nw (fz_s1 kd ev th b nw p)) bg' ob' → (r = 0 → fz_s2 kd ev el b nw (fz_s1 kd ev th b nw p) = p) → (r = 1 → fz_mu p < fz_mu (fz_s2 kd ev el b nw (fz_s1 kd ev th b nw p))) →
      (∀ i, bt ot' i = true ↔ (bt ot i = true ∨ (i = b ∧ fz_lt kd b (nw (ev b).toNatClampNeg)))) →
      (∀ i, bt oe' i = true ↔ (bt oe i = true ∨ (i = b ∧ fz_l2 kd b (nw (ev b).toNatClampNeg)))) → post r ((nI n), (nI k), me, ob', ot', oe', it, lr, lb, la, sz, kd, ev, th, el, op, rs, fi, se, dm, fr, lv, bg', en, va)) : wpX_spreadFrom post ((nI n), (nI k), me, ob, ot, oe, it, lr, lb, la, sz, kd, ev, th, el, op, rs, fi, se, dm, fr, lv, bg, en, va) (nI b) := by
  have hn := ok.1
  have c : (nI b).toNatClampNeg = b := nI_clamp (by omega)
  have vi : vp_in (nI b) 16 := vp_in_nI (by omega) (by omega)
  have hV : ¬ fz_V = 0 := by decide
  refine fe_cs ok hb (fun k0 => ?_) (fun t k1 _ ht e1 => ?_) (fun t t' k2 _ ht e1 _ ht' e2 => ?_)
  · have n1 : ¬ fz_lt kd b (nw (ev b).toNatClampNeg) := fun z => fz_ltn z k0
    have n2 : ¬ fz_l2 kd b (nw (ev b).toNatClampNeg) := fun z => by
      have := z.1
      rw [k0] at this
      exact absurd this (by decide)
    have e1 : fz_s1 kd ev th b nw p = p := if_neg n1
    have e2 : fz_s2 kd ev el b nw p = p := if_neg n2
    rw [e1, e2] at hp
    exact ⟨vi, br_t (by rw [c]; exact k0) (hp 0 bg ob ot oe (Or.inl rfl) ag (fun _ => rfl) (fun z => absurd z (by decide)) (fun i => ⟨Or.inl, fun z => z.elim id (fun y => absurd y.2 n1)⟩) (fun i => ⟨Or.inl, fun z => z.elim id (fun y => absurd y.2 n2)⟩))⟩
  · refine ⟨vi, br_f (by rw [c, k1]; decide) ⟨vi, br_f (by rw [c, k1]; decide) (xv_78 ok hb ag hw hok (Or.inr ⟨rfl, Or.inl k1⟩) (Or.inl ⟨rfl, fun z => ?_⟩) hp)⟩⟩
    have := z.1
    rw [k1] at this
    exact absurd this (by decide)
  · obtain ⟨v, hv, e3⟩ := hev b hb (by rw [k2]; decide)
    have cv : (ev b).toNatClampNeg = v := by rw [e3, nI_clamp (by omega)]
    have i6 : nI b * 6 + ev (nI b).toNatClampNeg = nI (6 * b + v) := by rw [c, e3, xv_6]
    have c6 : (nI (6 * b + v)).toNatClampNeg = 6 * b + v := nI_clamp (by omega)
    have n1 : ¬ kd b = 1 := by rw [k2]; decide
    refine ⟨vi, br_f (by rw [c, k2]; decide) ⟨vi, br_t (by rw [c]; exact k2) ⟨vi, by rw [i6]; exact vp_in_nI (by omega) (by omega), ?_⟩⟩⟩
    intro y ey
    rw [i6, c6, hw v hv] at ey
    subst ey
    by_cases z : nw v = 0
    · refine br_t z (br_t z (xv_78 ok hb ag hw hok (Or.inl ⟨rfl, ?_⟩) (Or.inr ⟨rfl, k2, Or.inl (by rw [cv]; exact z)⟩) hp))
      rw [cv]
      exact fun w => w.elim n1 (fun q => q.2 z)
    · refine br_f z (br_f z ?_)
      have l1 : fz_lt kd b (nw (ev b).toNatClampNeg) := Or.inr ⟨k2, by rw [cv]; exact z⟩
      by_cases q : nw v = fz_V
      · exact br_t q (xv_78 ok hb ag hw hok (Or.inr ⟨rfl, l1⟩) (Or.inr ⟨rfl, k2, Or.inr (by rw [cv]; exact q)⟩) hp)
      · refine br_f q (xv_78 ok hb ag hw hok (Or.inr ⟨rfl, l1⟩) (Or.inl ⟨rfl, fun w => ?_⟩) hp)
        rw [cv] at w
        exact w.2.elim z q
end
theorem fz_tgo {n : Nat} {kd th el : Nat → Int32} (ok : fe_ok n kd th el) : fz_tg n kd th el := by
  refine ⟨ok.1, fun x hx => ⟨fun k => ?_, fun k => ?_⟩⟩
  · obtain ⟨t, _, ht, e⟩ := (ok.2 x hx).2.1 k
    have := ok.1
    rw [e, nI_clamp (by omega)]
    exact ht
  · obtain ⟨t, _, ht, e⟩ := (ok.2 x hx).2.2 k
    have := ok.1
    rw [e, nI_clamp (by omega)]
    exact ht
/-- what the class holds in the midst of its rounds -/
def xv_in (n : Nat) (sz kd ev op rs fi se : Nat → Int32) (p : (Nat → Int64) × (Nat → Bool)) (bg en : Nat → Int64) (ob ot oe : Int32) : Prop :=
  xv_ag p bg ob ∧ fz_iv n p ∧ (∀ b, p.2 b = false → ∀ v, v < 6 → b < 16 → en (6 * b + v) = fz_N) ∧
  (∀ b, bt ot b = true → p.2 b = true ∧ fz_lt kd b (fz_en sz op rs fi se p.1 b (ev b).toNatClampNeg)) ∧
  (∀ b, bt oe b = true → p.2 b = true ∧ fz_l2 kd b (fz_en sz op rs fi se p.1 b (ev b).toNatClampNeg))
/-- and at their end -/
def xv_fi (n k : Nat) (sz kd ev th el op rs fi se : Nat → Int32) (p : (Nat → Int64) × (Nat → Bool)) (bg en : Nat → Int64) (ob ot oe : Int32) : Prop :=
  fz_so sz kd ev th el op rs fi se n (fz_p0 n k) p ∧ xv_in n sz kd ev op rs fi se p bg en ob ot oe ∧
  (∀ b, p.2 b = true → (∀ v, v < 6 → en (6 * b + v) = fz_en sz op rs fi se p.1 b v) ∧ (fz_lt kd b (fz_en sz op rs fi se p.1 b (ev b).toNatClampNeg) → bt ot b = true) ∧ (fz_l2 kd b (fz_en sz op rs fi se p.1 b (ev b).toNatClampNeg) → bt oe b = true))
section
variable {n k : Nat} {me ob ot oe it lr lb la : Int32} {sz kd ev th el op rs fi se dm fr lv va : Nat → Int32} {bg en : Nat → Int64}
theorem xv_rd (ok : fe_ok n kd th el) (hev : fe_ev n kd ev) (is : fe_is n sz op rs fi se) {post : SX → Prop}
    {J : Int32 → Int32 → Int32 → Int32 → Int32 → Int32 → Int32 → Int32 → Int32 → Int32 → Int32 → Int32 → (Nat → Int32) → (Nat → Int32) → (Nat → Int32) → (Nat → Int32) → (Nat → Int32) → (Nat → Int32) → (Nat → Int32) → (Nat → Int32) → (Nat → Int32) → (Nat → Int32) → (Nat → Int32) → (Nat → Int32) → (Nat → Int64) → (Nat → Int64) → (Nat → Int32) → Prop}
    {r : Nat} {p0 : (Nat → Int64) × (Nat → Bool)} (hp0 : fz_iv n p0)
    (hJ : ∀ ch p bg' en' ob' ot' oe', p = fz_rd sz kd ev th el op rs fi se p0 n → xv_in n sz kd ev op rs fi se p bg' en' ob' ot' oe' →
      ((ch = 1 ∧ fz_mu p0 < fz_mu p) ∨ (ch = 0 ∧ p = p0 ∧ ∀ b, b < n → p0.2 b = true → (∀ v, v < 6 → en' (6 * b + v) = fz_en sz op rs fi se p0.1 b v) ∧ (fz_lt kd b (fz_en sz op rs fi se p0.1 b (ev b).toNatClampNeg) → bt ot' b = true) ∧ (fz_l2 kd b (fz_en sz op rs fi se p0.1 b (ev b).toNatClampNeg) → bt oe' b = true))) →
      J ch (nI (r + 1)) (nI n) (nI k) me ob' ot' oe' it lr lb la sz kd ev th el op rs fi se dm fr lv bg' en' va) :
    ∀ m x ch p bg' en' ob' ot' oe', x ≤ n → n - x < m → p = fz_rd sz kd ev th el op rs fi se p0 x → xv_in n sz kd ev op rs fi se p bg' en' ob' ot' oe' →
      ((ch = 1 ∧ fz_mu p0 < fz_mu p) ∨ (ch = 0 ∧ p = p0 ∧ ∀ b, b < x → p0.2 b = true → (∀ v, v < 6 → en' (6 * b + v) = fz_en sz op rs fi se p0.1 b v) ∧ (fz_lt kd b (fz_en sz op rs fi se p0.1 b (ev b).toNatClampNeg) → bt ot' b = true) ∧ (fz_l2 kd b (fz_en sz op rs fi se p0.1 b (ev b).toNatClampNeg) → bt oe' b = true))) →
      wX_solveValues_70 post J (nI r) m ch (nI x) (nI n) (nI k) me ob' ot' oe' it lr lb la sz kd ev th el op rs fi se dm fr lv bg' en' va := by
  have hn := ok.1
  have htg := fz_tgo ok
  intro m
  induction m with
  | zero => intro x ch p bg' en' ob' ot' oe' _ h; omega
  | succ m ih =>
    intro x ch p bg' en' ob' ot' oe' hx hm ep hi hch
    by_cases e : x = n
    · have e' := e.symm
      subst e'
      exact br_t (Int32.le_refl _) (nm_r (nI_1 r) (hJ ch p bg' en' ob' ot' oe' ep hi hch))
    · have hxn : x < n := by omega
      obtain ⟨ag, iv, hc, hd, he⟩ := hi
      refine br_f (nI_ge hxn (by omega)) (xs_has (by omega) (fun z => br_t rfl (nm_r (nI_1 x) ?_)) (fun z => br_f (by decide) ?_))
      · have z2 : ¬ p.2 x = true := fun w => z ((ag.2 x).trans w)
        have e2 : fz_rd sz kd ev th el op rs fi se p0 (x + 1) = p := by
          show fz_st sz kd ev th el op rs fi se x (fz_rd sz kd ev th el op rs fi se p0 x) = p
          rw [← ep]
          exact if_neg z2
        refine ih (x + 1) ch p bg' en' ob' ot' oe' (by omega) (by omega) e2.symm ⟨ag, iv, hc, hd, he⟩ ?_
        rcases hch with w | ⟨w1, w2, w3⟩
        · exact Or.inl w
        · refine Or.inr ⟨w1, w2, fun b hb hb2 => ?_⟩
          by_cases eb : b = x
          · rw [eb, ← w2] at hb2
            exact absurd hb2 z2
          · exact w3 b (by omega) hb2
      · have z2 : p.2 x = true := (ag.2 x).symm.trans z
        have nok := fz_enok (sz := sz) (op := op) (d := rs) (a := fi) (b := se) iv z2
        refine xv_wt hn is (B := p.1) hxn (fun v hv => ag.1 _ (by omega)) (fun en2 hen1 hen2 => ?_)
        refine xv_sfr ok hev hxn ag hen1 nok (fun rr bg2 ob2 ot2 oe2 hr ag2 hr0 hr1 hot hoe => ?_)
        have e2 : fz_rd sz kd ev th el op rs fi se p0 (x + 1) = fz_s2 kd ev el x (fz_en sz op rs fi se p.1 x) (fz_s1 kd ev th x (fz_en sz op rs fi se p.1 x) p) := by
          show fz_st sz kd ev th el op rs fi se x (fz_rd sz kd ev th el op rs fi se p0 x) = _
          rw [← ep]
          exact if_pos z2
        have sta := fz_sta (sz := sz) (ev := ev) (op := op) (d := rs) (a := fi) (b := se) (x := x) htg hxn iv
        have e3 : fz_st sz kd ev th el op rs fi se x p = fz_s2 kd ev el x (fz_en sz op rs fi se p.1 x) (fz_s1 kd ev th x (fz_en sz op rs fi se p.1 x) p) := if_pos z2
        rw [e3] at sta
        generalize fz_s2 kd ev el x (fz_en sz op rs fi se p.1 x) (fz_s1 kd ev th x (fz_en sz op rs fi se p.1 x) p) = p2 at *
        obtain ⟨iv2, ge2, mu2⟩ := sta
        have hi2 : xv_in n sz kd ev op rs fi se p2 bg2 en2 ob2 ot2 oe2 := by
          refine ⟨ag2, iv2, fun b hb v hv hb16 => ?_, fun b hb => ?_, fun b hb => ?_⟩
          · have hpb : p.2 b = false := by
              cases q : p.2 b
              · rfl
              · rw [(ge2 b q).1] at hb
                exact absurd hb (by decide)
            have hbx : ¬ b = x := fun q => by
              rw [q, z2] at hpb
              exact absurd hpb (by decide)
            rw [hen2 _ (by omega)]
            exact hc b hpb v hv hb16
          · rcases (hot b).mp hb with q | ⟨q1, q2⟩
            · have q2 := hd b q
              exact ⟨(ge2 b q2.1).1, fz_ltm (fz_enm ge2 q2.1 _) q2.2⟩
            · rw [q1]
              exact ⟨(ge2 x z2).1, fz_ltm (fz_enm ge2 z2 _) q2⟩
          · rcases (hoe b).mp hb with q | ⟨q1, q2⟩
            · have q2 := he b q
              exact ⟨(ge2 b q2.1).1, fz_l2m (fz_enm ge2 q2.1 _) q2.2⟩
            · rw [q1]
              exact ⟨(ge2 x z2).1, fz_l2m (fz_enm ge2 z2 _) q2⟩
        rcases hch with ⟨w1, w2⟩ | ⟨w1, w2, w3⟩
        · refine br_f (by rw [w1]; decide) (nm_r (nI_1 x) (ih (x + 1) 1 p2 bg2 en2 ob2 ot2 oe2 (by omega) (by omega) e2.symm hi2 (Or.inl ⟨rfl, by omega⟩)))
        · refine br_t w1 ?_
          rcases hr with q | q
          · refine br_t q (nm_r (nI_1 x) (ih (x + 1) 0 p2 bg2 en2 ob2 ot2 oe2 (by omega) (by omega) e2.symm hi2 (Or.inr ⟨rfl, (hr0 q).trans w2, fun b hb hb2 => ?_⟩)))
            by_cases eb : b = x
            · subst eb
              rw [w2] at hen1 hot hoe
              exact ⟨hen1, fun l => (hot b).mpr (Or.inr ⟨rfl, l⟩), fun l => (hoe b).mpr (Or.inr ⟨rfl, l⟩)⟩
            · have w4 := w3 b (by omega) hb2
              refine ⟨fun v hv => ?_, fun l => (hot b).mpr (Or.inl (w4.2.1 l)), fun l => (hoe b).mpr (Or.inl (w4.2.2 l))⟩
              rw [hen2 _ (by omega)]
              exact w4.1 v hv
          · refine br_f (by rw [q]; decide) (nm_r (nI_1 x) (ih (x + 1) 1 p2 bg2 en2 ob2 ot2 oe2 (by omega) (by omega) e2.symm hi2 (Or.inl ⟨rfl, ?_⟩)))
            have := hr1 q
            rw [← w2]
            exact this
end
end
section
theorem xs_isV {post : Int32 → Prop} {x : Int32} (h0 : (∀ j, j < 6 → ¬ x = nI j) → post 0) (h1 : ∀ j, j < 6 → x = nI j → post 1) : wpX_isVariable post x := by
  rcases pk_ix x (n := 6) (by decide) with h | h | ⟨j, hj, e⟩
  · refine br_t h (h0 (fun j hj e => ?_))
    rw [e] at h
    exact nI_pos (by omega) h
  · have h2 : ¬ x < 0 := fun z => nI_pos (n := 6) (by decide) (Int32.lt_of_le_of_lt h z)
    refine br_f h2 (br_t h (h0 (fun j hj e => ?_)))
    rw [e] at h
    exact nI_ge hj (by decide) h
  · subst e
    exact br_f (nI_pos (by omega)) (br_f (nI_ge (b := 6) hj (by decide)) (h1 j hj rfl))
/-- what 'value' answers -/
def fz_va (sz op rs fi se : Nat → Int32) (p : (Nat → Int64) × (Nat → Bool)) (b v : Nat) (e : Int32) : Int64 :=
  if p.2 b = true then (if e = 0 then p.1 (6 * b + v) else fz_en sz op rs fi se p.1 b v) else fz_N
/-- what 'count' answers -/
noncomputable def fz_k0 (n : Nat) (kd th el : Nat → Int32) : Nat := fz_sm (fun x => fz_on (fa_pc (fd_M (fe_E n kd th el) (fe_st n)) x)) n
def fz_k1 (n : Nat) (p : (Nat → Int64) × (Nat → Bool)) : Nat := fz_sm (fun x => fz_on (p.2 x)) n
noncomputable def fz_k2 (n : Nat) (kd th el : Nat → Int32) : Nat := fz_sm (fun x => if fa_pc (fd_M (fe_E n kd th el) (fe_st n)) x = true then (kd x).toNatClampNeg else 0) n
def fz_wy (sz kd ev op rs fi se : Nat → Int32) (p : (Nat → Int64) × (Nat → Bool)) (x : Nat) : Nat :=
  if p.2 x = true then (if fz_lt kd x (fz_en sz op rs fi se p.1 x (ev x).toNatClampNeg) then 1 else 0) + (if fz_l2 kd x (fz_en sz op rs fi se p.1 x (ev x).toNatClampNeg) then 1 else 0) else 0
def fz_k3 (n : Nat) (sz kd ev op rs fi se : Nat → Int32) (p : (Nat → Int64) × (Nat → Bool)) : Nat := fz_sm (fz_wy sz kd ev op rs fi se p) n
section
variable {n k : Nat} {me ob ot oe it lr lb la : Int32} {sz kd ev th el op rs fi se dm fr lv va : Nat → Int32} {bg en : Nat → Int64}
theorem xv_fg {post : SX → Prop} (hp : ∀ bg' en', (∀ j, j < 96 → bg' j = fz_N) → (∀ j, j < 96 → en' j = fz_N) → post ((nI n), (nI k), me, 0, 0, 0, it, lr, lb, la, sz, kd, ev, th, el, op, rs, fi, se, dm, fr, lv, bg', en', va)) : wpX_forgetValues post ((nI n), (nI k), me, ob, ot, oe, it, lr, lb, la, sz, kd, ev, th, el, op, rs, fi, se, dm, fr, lv, bg, en, va) := by
  have L : ∀ m x bg' en', x ≤ 96 → 96 - x < m → (∀ j, j < x → bg' j = fz_N) → (∀ j, j < x → en' j = fz_N) → wX_forgetValues_2 post (nI n) (nI k) me ob ot oe it lr lb la m (nI x) sz kd ev th el op rs fi se dm fr lv bg' en' va := by
    intro m
    induction m with
    | zero => intro x bg' en' _ h; omega
    | succ m ih =>
      intro x bg' en' hx hm h1 h2
      by_cases e : x = 96
      · subst e
        exact br_t (by decide) (hp bg' en' h1 h2)
      · have c : (nI x).toNatClampNeg = x := nI_clamp (by omega)
        have vi : vp_in (nI x) 96 := vp_in_nI (by omega) (by omega)
        refine br_f (nI_ge (b := 96) (by omega) (by decide)) ⟨vi, ?_⟩
        intro y ey
        rw [c] at ey
        subst ey
        refine ⟨vi, ?_⟩
        intro y ey
        rw [c] at ey
        subst ey
        refine nm_r (nI_1 x) (ih (x + 1) _ _ (by omega) (by omega) (fun j hj => ?_) (fun j hj => ?_))
        · by_cases ej : j = x
          · rw [ej, pk_uLs]; rfl
          · rw [pk_uLn ej]; exact h1 j (by omega)
        · by_cases ej : j = x
          · rw [ej, pk_uLs]; rfl
          · rw [pk_uLn ej]; exact h2 j (by omega)
  exact ⟨97, L 97 0 bg en (by omega) (by omega) (fun j hj => absurd hj (Nat.not_lt_zero j)) (fun j hj => absurd hj (Nat.not_lt_zero j))⟩
theorem xv_sol (ok : fe_ok n kd th el) (hev : fe_ev n kd ev) (is : fe_is n sz op rs fi se) (hk : k ≤ 3) {post : SX → Prop}
    (hp : ∀ p bg' en' ob' ot' oe', xv_fi n k sz kd ev th el op rs fi se p bg' en' ob' ot' oe' → post ((nI n), (nI k), me, ob', ot', oe', it, lr, lb, la, sz, kd, ev, th, el, op, rs, fi, se, dm, fr, lv, bg', en', va)) : wpX_solveValues post ((nI n), (nI k), me, ob, ot, oe, it, lr, lb, la, sz, kd, ev, th, el, op, rs, fi, se, dm, fr, lv, bg, en, va) := by
  unfold wpX_solveValues
  have hn := ok.1
  have htg := fz_tgo ok
  have L1 : ∀ m r p bg' en' ob' ot' oe', 211 - fz_mu p < m → r ≤ fz_mu p → (∃ q, p = fz_it sz kd ev th el op rs fi se n (fz_p0 n k) q) → xv_in n sz kd ev op rs fi se p bg' en' ob' ot' oe' →
      wX_solveValues_56 post m 1 (nI r) (nI n) (nI k) me ob' ot' oe' it lr lb la sz kd ev th el op rs fi se dm fr lv bg' en' va := by
    intro m
    induction m with
    | zero => intro r p bg' en' ob' ot' oe' h; omega
    | succ m ih =>
      intro r p bg' en' ob' ot' oe' hm hr hq hi
      have hb := fz_mub p
      refine br_f (by decide) (br_f (nI_ge (b := 100000) (by omega) (by decide)) ⟨n + 1, xv_rd ok hev is hi.2.1 (fun ch p2 bg2 en2 ob2 ot2 oe2 e2 hi2 hch => ?_) (n + 1) 0 0 p bg' en' ob' ot' oe' (by omega) (by omega) rfl hi (Or.inr ⟨rfl, rfl, fun b hb => absurd hb (Nat.not_lt_zero b)⟩)⟩)
      rcases hch with ⟨w1, w2⟩ | ⟨w1, w2, w3⟩
      · subst w1
        refine ih (r + 1) p2 bg2 en2 ob2 ot2 oe2 (by omega) (by omega) ?_ hi2
        obtain ⟨q, hq⟩ := hq
        exact ⟨q + 1, by rw [e2, hq]; rfl⟩
      · subst w1
        subst w2
        cases m with
        | zero => omega
        | succ m => exact br_t rfl (hp p2 bg2 en2 ob2 ot2 oe2 ⟨⟨hq, e2.symm⟩, hi2, fun b hb2 => w3 b ((hi2.2.1 b).1 hb2).1 hb2⟩)
  refine xv_fg (fun bg0 en0 hbg hen => ?_)
  by_cases e : n = 0
  · subst e
    refine br_t rfl (hp (fz_p0 0 k) bg0 en0 0 0 0 ⟨⟨⟨0, rfl⟩, rfl⟩, ⟨⟨fun j hj => ?_, fun i => ?_⟩, fz_p0iv 0 k, fun b _ v hv hb => hen _ (by omega), fun b hb => absurd hb (sl_no b), fun b hb => absurd hb (sl_no b)⟩, fun b hb => ?_⟩)
    · unfold fz_p0
      dsimp only
      rw [if_neg (by omega)]
      exact hbg j hj
    · rw [b_0]
      unfold fz_p0
      dsimp only
      rw [decide_eq_false (by omega)]
    · unfold fz_p0 at hb
      dsimp only at hb
      rw [decide_eq_false (by omega)] at hb
      exact absurd hb (by decide)
  · have L : ∀ m v bg', v ≤ 6 → 6 - v < m → (∀ j, j < v → bg' j = if j < k then fz_V else 0) → (∀ j, j < 96 → v ≤ j → bg' j = fz_N) → wX_solveValues_19 post (nI n) (nI k) me 1 0 0 it lr lb la m (nI v) sz kd ev th el op rs fi se dm fr lv bg' en0 va := by
      intro m
      induction m with
      | zero => intro v bg' _ h; omega
      | succ m ih =>
        intro v bg' hv hm h1 h2
        by_cases e6 : v = 6
        · subst e6
          refine br_t (by decide) ⟨212, L1 212 0 (fz_p0 n k) bg' en0 1 0 0 (by omega) (Nat.zero_le _) ⟨0, rfl⟩ ⟨⟨fun j hj => ?_, fun i => ?_⟩, fz_p0iv n k, fun b _ v hv hb => hen _ (by omega), fun b hb => absurd hb (sl_no b), fun b hb => absurd hb (sl_no b)⟩⟩
          · unfold fz_p0
            dsimp only
            by_cases j6 : j < 6
            · rw [if_pos (by omega)]
              exact h1 j j6
            · rw [if_neg (by omega)]
              exact h2 j hj (by omega)
          · apply Bool.eq_iff_iff.mpr
            rw [sl_b1]
            unfold fz_p0
            dsimp only
            rw [decide_eq_true_iff]
            omega
        · have c : (nI v).toNatClampNeg = v := nI_clamp (by omega)
          have vi : vp_in (nI v) 96 := vp_in_nI (by omega) (by omega)
          have nx : ∀ w : Int64, (w = if v < k then fz_V else 0) → ∀ y, y = vp_updL bg' (nI v).toNatClampNeg w → wX_solveValues_19 post (nI n) (nI k) me 1 0 0 it lr lb la m (nI (v + 1)) sz kd ev th el op rs fi se dm fr lv y en0 va := by
            intro w hw y ey
            rw [c] at ey
            subst ey
            refine ih (v + 1) _ (by omega) (by omega) (fun j hj => ?_) (fun j hj hj2 => ?_)
            · by_cases ej : j = v
              · rw [ej, pk_uLs]; exact hw
              · rw [pk_uLn ej]; exact h1 j (by omega)
            · rw [pk_uLn (by omega)]; exact h2 j hj (by omega)
          refine br_f (nI_ge (b := 6) (by omega) (by decide)) ?_
          by_cases q : k ≤ v
          · exact br_t (nI_le q (by omega)) ⟨vi, fun y ey => nm_r (nI_1 v) (nx 0 (by rw [if_neg (by omega)]) y ey)⟩
          · exact br_f (nI_ge (by omega) (by omega)) ⟨vi, fun y ey => nm_r (nI_1 v) (nx 10000000001 (by rw [if_pos (by omega)]; rfl) y ey)⟩
    exact br_f (nI_ne0 (by omega) (by omega)) ⟨7, L 7 0 bg0 (by omega) (by omega) (fun j hj => absurd hj (Nat.not_lt_zero j)) (fun j hj _ => hbg j hj)⟩
theorem xv_val (ok : fe_ok n kd th el) (hev : fe_ev n kd ev) (is : fe_is n sz op rs fi se) (hk : k ≤ 3) {post : Int64 → SX → Prop} {v1 v2 v3 : Int32}
    (h0 : ¬ (∃ b v, b < n ∧ v < 6 ∧ v1 = nI b ∧ v2 = nI v) → post fz_N ((nI n), (nI k), me, ob, ot, oe, it, lr, lb, la, sz, kd, ev, th, el, op, rs, fi, se, dm, fr, lv, bg, en, va))
    (h1 : ∀ b v, b < n → v < 6 → v1 = nI b → v2 = nI v → ∀ p bg' en' ob' ot' oe', fz_so sz kd ev th el op rs fi se n (fz_p0 n k) p → post (fz_va sz op rs fi se p b v v3) ((nI n), (nI k), me, ob', ot', oe', it, lr, lb, la, sz, kd, ev, th, el, op, rs, fi, se, dm, fr, lv, bg', en', va)) : wpX_value post ((nI n), (nI k), me, ob, ot, oe, it, lr, lb, la, sz, kd, ev, th, el, op, rs, fi, se, dm, fr, lv, bg, en, va) v1 v2 v3 := by
  unfold wpX_value
  have hn := ok.1
  refine xs_isB hn (fun z => br_t rfl (h0 (fun ⟨b, v, hb, hv, eb, ev⟩ => z b hb eb))) (fun b hb eb => br_f (by decide) ?_)
  refine xs_isV (fun z => br_t rfl (h0 (fun ⟨b, v, hb, hv, eb, ev⟩ => z v hv ev))) (fun v hv ev1 => br_f (by decide) ?_)
  refine xv_sol ok hev is hk (fun p bg' en' ob' ot' oe' hf => ?_)
  have h1' := h1 b v hb hv eb ev1 p bg' en' ob' ot' oe' hf.1
  obtain ⟨_, ⟨ag, iv, hc, _, _⟩, hen⟩ := hf
  subst eb
  subst ev1
  have c6 : (nI (6 * b + v)).toNatClampNeg = 6 * b + v := nI_clamp (by omega)
  have v6 : vp_in (nI (6 * b + v)) 96 := vp_in_nI (by omega) (by omega)
  unfold fz_va at h1'
  intro y ey
  rw [xv_6] at ey
  subst ey
  by_cases e3 : v3 = 0
  · refine br_t e3 ⟨v6, ?_⟩
    rw [c6, ag.1 _ (by omega)]
    by_cases q : p.2 b = true
    · rw [if_pos q, if_pos e3] at h1'
      exact h1'
    · rw [if_neg q] at h1'
      rw [(iv b).2 (by cases z : p.2 b; rfl; exact absurd z q) v hv]
      exact h1'
  · refine br_f e3 ⟨v6, ?_⟩
    rw [c6]
    by_cases q : p.2 b = true
    · rw [if_pos q, if_neg e3] at h1'
      rw [(hen b q).1 v hv]
      exact h1'
    · rw [if_neg q] at h1'
      rw [hc b (by cases z : p.2 b; rfl; exact absurd z q) v hv (by omega)]
      exact h1'
theorem xv_sz {post : Int32 → Prop} {s : Int32} (hp : post (nI (fa_cn (bt s) 16))) : wpX_sizeOf post s := by
  have L : ∀ m j, j ≤ 16 → 16 - j < m → wX_sizeOf_4 post s m (nI (fa_cn (bt s) j)) (nI j) := by
    intro m
    induction m with
    | zero => intro j _ h; omega
    | succ m ih =>
      intro j hj hm
      by_cases e : j = 16
      · subst e
        exact br_t (by decide) hp
      · have := ih (j + 1) (by omega) (by omega)
        refine br_f (nI_ge (b := 16) (by omega) (by decide)) (xs_has (by omega) (fun z => br_t rfl (nm_r (nI_1 j) ?_)) (fun z => br_f (by decide) ?_))
        · rw [fa_cn0 z] at this
          exact this
        · rw [fa_cn1 z] at this
          exact nm_r (nI_1 _) (nm_r (nI_1 j) this)
  exact ⟨17, L 17 0 (by omega) (by omega)⟩
theorem xv_eg (ok : fe_ok n kd th el) {post : Int32 → Prop} {s : Int32} (hp : post (nI (fz_sm (fun x => if bt s x = true then (kd x).toNatClampNeg else 0) n))) : wpX_edgesOf post ((nI n), (nI k), me, ob, ot, oe, it, lr, lb, la, sz, kd, ev, th, el, op, rs, fi, se, dm, fr, lv, bg, en, va) s := by
  have hn := ok.1
  have L : ∀ m j, j ≤ n → n - j < m → wX_edgesOf_4 post s (nI n) (nI k) me ob ot oe it lr lb la sz kd ev th el op rs fi se dm fr lv bg en va m (nI (fz_sm (fun x => if bt s x = true then (kd x).toNatClampNeg else 0) j)) (nI j) := by
    intro m
    induction m with
    | zero => intro j _ h; omega
    | succ m ih =>
      intro j hj hm
      by_cases e : j = n
      · have e' := e.symm
        subst e'
        exact br_t (Int32.le_refl _) hp
      · have c : (nI j).toNatClampNeg = j := nI_clamp (by omega)
        have vi : vp_in (nI j) 16 := vp_in_nI (by omega) (by omega)
        have this := ih (j + 1) (by omega) (by omega)
        have e1 : fz_sm (fun x => if bt s x = true then (kd x).toNatClampNeg else 0) (j + 1) = fz_sm (fun x => if bt s x = true then (kd x).toNatClampNeg else 0) j + (if bt s j = true then (kd j).toNatClampNeg else 0) := rfl
        rw [e1] at this
        refine br_f (nI_ge (by omega) (by omega)) (xs_has (by omega) (fun z => br_t rfl (nm_r (nI_1 j) ?_)) (fun z => br_f (by decide) ⟨vi, ?_⟩))
        · rw [if_neg z] at this
          exact this
        · rw [if_pos z] at this
          refine fe_cs ok (by omega : j < n) (fun k0 => ?_) (fun t k1 _ ht e1 => ?_) (fun t t' k2 _ ht e1 _ ht' e2 => ?_)
          · rw [k0] at this
            exact br_t (by rw [c]; exact k0) (nm_r (nI_1 j) this)
          · rw [k1] at this
            exact br_f (by rw [c, k1]; decide) ⟨vi, br_f (by rw [c, k1]; decide) (nm_r (nI_1 _) (nm_r (nI_1 j) this))⟩
          · rw [k2] at this
            refine br_f (by rw [c, k2]; decide) ⟨vi, br_t (by rw [c]; exact k2) ?_⟩
            intro y ey
            have ey2 : y = nI (fz_sm (fun x => if bt s x = true then (kd x).toNatClampNeg else 0) j + 2) := ey.trans (nI_add _ 2)
            rw [ey2]
            exact nm_r (nI_1 j) this
  exact ⟨n + 1, L (n + 1) 0 (by omega) (by omega)⟩
theorem xv_cnt (ok : fe_ok n kd th el) (hev : fe_ev n kd ev) (is : fe_is n sz op rs fi se) (hk : k ≤ 3) {post : Int32 → SX → Prop} {v1 : Int32}
    (h0 : (∀ j, j < 4 → ¬ v1 = nI j) → post (-1) ((nI n), (nI k), me, ob, ot, oe, it, lr, lb, la, sz, kd, ev, th, el, op, rs, fi, se, dm, fr, lv, bg, en, va))
    (h1 : v1 = 0 → post (nI (fz_k0 n kd th el)) ((nI n), (nI k), me, ob, ot, oe, it, lr, lb, la, sz, kd, ev, th, el, op, rs, fi, se, dm, fr, lv, bg, en, va)) (h2 : v1 = 2 → post (nI (fz_k2 n kd th el)) ((nI n), (nI k), me, ob, ot, oe, it, lr, lb, la, sz, kd, ev, th, el, op, rs, fi, se, dm, fr, lv, bg, en, va))
    (h3 : v1 = 1 → ∀ p bg' en' ob' ot' oe', fz_so sz kd ev th el op rs fi se n (fz_p0 n k) p → post (nI (fz_k1 n p)) ((nI n), (nI k), me, ob', ot', oe', it, lr, lb, la, sz, kd, ev, th, el, op, rs, fi, se, dm, fr, lv, bg', en', va))
    (h4 : v1 = 3 → ∀ p bg' en' ob' ot' oe', fz_so sz kd ev th el op rs fi se n (fz_p0 n k) p → post (nI (fz_k3 n sz kd ev op rs fi se p)) ((nI n), (nI k), me, ob', ot', oe', it, lr, lb, la, sz, kd, ev, th, el, op, rs, fi, se, dm, fr, lv, bg', en', va)) : wpX_count post ((nI n), (nI k), me, ob, ot, oe, it, lr, lb, la, sz, kd, ev, th, el, op, rs, fi, se, dm, fr, lv, bg, en, va) v1 := by
  have hn := ok.1
  have pM : ∀ r : Int32, (∀ i, bt r i = true ↔ fr_R (fe_E n kd th el) (fe_st n) (fun _ => False) i) → ∀ i, bt r i = true ↔ fa_pc (fd_M (fe_E n kd th el) (fe_st n)) i = true := fun r hr i => (hr i).trans fa_pt.symm
  rcases pk_ix v1 (n := 4) (by decide) with h | h | ⟨j, hj, e⟩
  · refine br_t h (h0 (fun j hj e => ?_))
    rw [e] at h
    exact nI_pos (by omega) h
  · have g2 : ¬ v1 < 0 := fun z => nI_pos (n := 4) (by decide) (Int32.lt_of_le_of_lt h z)
    refine br_f g2 (br_f (fun z => ?_) (h0 (fun j hj e => ?_)))
    · have := Int32.le_trans h z
      exact absurd this (by decide)
    · rw [e] at h
      exact nI_ge hj (by decide) h
  · have hj4 : j = 0 ∨ j = 1 ∨ j = 2 ∨ j = 3 := by omega
    subst e
    rcases hj4 with e | e | e | e
    · subst e
      refine br_f (by decide) (br_t (by decide) (br_t rfl ?_))
      unfold wX_count_20
      refine xs_rea ok (av := fun _ => False) (fun i => ⟨fun z => absurd z (sl_no i), False.elim⟩) (fun r hr => br_t rfl (xv_sz ?_))
      have hM : ∀ i, fa_pc (fd_M (fe_E n kd th el) (fe_st n)) i = true → i < n := fun i z => fe_Mn ok (fa_pt.mp z)
      have e1 : fa_cn (bt r) 16 = fz_k0 n kd th el := by
        rw [fa_cnE 16 (fun i _ => pM r hr i), fa_cn16 hn hM, fz_smC]
        rfl
      rw [e1]
      exact h1 rfl
    · subst e
      refine br_f (by decide) (br_t (by decide) (br_f (by decide) (br_f (by decide) (xv_sol ok hev is hk (fun p bg' en' ob' ot' oe' hf => br_t rfl (xv_sz ?_))))))
      have e1 : fa_cn (bt ob') 16 = fz_k1 n p := by
        have e2 : fa_cn (bt ob') 16 = fa_cn p.2 16 := fa_cnE 16 (fun i _ => by rw [hf.2.1.1.2 i])
        rw [e2, fa_cn16 hn (fun i hi => ((hf.2.1.2.1 i).1 hi).1), fz_smC]
        rfl
      rw [e1]
      exact h3 rfl p bg' en' ob' ot' oe' hf.1
    · subst e
      refine br_f (by decide) (br_t (by decide) (br_f (by decide) (br_t rfl ?_)))
      unfold wX_count_20
      refine xs_rea ok (av := fun _ => False) (fun i => ⟨fun z => absurd z (sl_no i), False.elim⟩) (fun r hr => br_f (by decide) (xv_eg ok ?_))
      have e1 : fz_sm (fun x => if bt r x = true then (kd x).toNatClampNeg else 0) n = fz_k2 n kd th el := by
        refine fz_smE n (fun j _ => ?_)
        by_cases z : bt r j = true
        · rw [if_pos z, if_pos ((pM r hr j).mp z)]
        · rw [if_neg z, if_neg (fun w => z ((pM r hr j).mpr w))]
      rw [e1]
      exact h2 rfl
    · subst e
      refine br_f (by decide) (br_t (by decide) (br_f (by decide) (br_f (by decide) (xv_sol ok hev is hk (fun p bg' en' ob' ot' oe' hf => br_f (by decide) (xv_sz (xv_sz ?_)))))))
      have ht : ∀ i, bt ot' i = true ↔ (p.2 i = true ∧ fz_lt kd i (fz_en sz op rs fi se p.1 i (ev i).toNatClampNeg)) := fun i => ⟨hf.2.1.2.2.2.1 i, fun z => (hf.2.2 i z.1).2.1 z.2⟩
      have he : ∀ i, bt oe' i = true ↔ (p.2 i = true ∧ fz_l2 kd i (fz_en sz op rs fi se p.1 i (ev i).toNatClampNeg)) := fun i => ⟨hf.2.1.2.2.2.2 i, fun z => (hf.2.2 i z.1).2.2 z.2⟩
      have e1 : fa_cn (bt ot') 16 + fa_cn (bt oe') 16 = fz_k3 n sz kd ev op rs fi se p := by
        rw [fa_cn16 hn (fun i hi => ((hf.2.1.2.1 i).1 ((ht i).mp hi).1).1), fa_cn16 hn (fun i hi => ((hf.2.1.2.1 i).1 ((he i).mp hi).1).1), fz_smC, fz_smC, ← fz_smA]
        refine fz_smE n (fun j _ => ?_)
        unfold fz_wy fz_on
        by_cases q : p.2 j = true
        · rw [if_pos q]
          congr 1
          · by_cases z : bt ot' j = true
            · rw [if_pos z, if_pos ((ht j).mp z).2]
            · rw [if_neg z, if_neg (fun w => z ((ht j).mpr ⟨q, w⟩))]
          · by_cases z : bt oe' j = true
            · rw [if_pos z, if_pos ((he j).mp z).2]
            · rw [if_neg z, if_neg (fun w => z ((he j).mpr ⟨q, w⟩))]
        · rw [if_neg q, if_neg (fun z => q ((ht j).mp z).1), if_neg (fun z => q ((he j).mp z).1)]
      rw [nI_add, e1]
      exact h4 rfl p bg' en' ob' ot' oe' hf.1
end
end
section
theorem yv_6 (b v : Nat) : 6 * nI b + nI v = nI (6 * b + v) := by
  show nI 6 * nI b + nI v = _
  rw [pk_mul, nI_add]
theorem yv_n0 : vp_nar .boolean 0 = 0 := by rfl
theorem yv_n1 : vp_nar .boolean 1 = 1 := by rfl
theorem yv_rk1 {post : Int32 → Prop} {x y : Int32} (hp : post x) : wpY_reckoned post 1 x y :=
  br_f (by decide) (br_f (by decide) (br_t rfl hp))
theorem yv_rk {post : Int32 → Prop} {o : Nat} {x y : Int32} (h2 : 2 ≤ o) (h6 : o ≤ 6) (hp : post (fz_w (nI o) x y)) : wpY_reckoned post (nI o) x y := by
  unfold fz_w at hp
  rcases xv_o h2 h6 with e | e | e | e | e
  · subst e
    rw [if_pos (by decide)] at hp
    exact br_f (by decide) (br_f (by decide) (br_f (by decide) (br_t (by decide) hp)))
  · subst e
    rw [if_neg (by decide), if_pos (by decide)] at hp
    exact br_f (by decide) (br_f (by decide) (br_f (by decide) (br_f (by decide) (br_t (by decide) hp))))
  · subst e
    rw [if_neg (by decide), if_neg (by decide), if_pos (by decide)] at hp
    exact br_f (by decide) (br_f (by decide) (br_f (by decide) (br_f (by decide) (br_f (by decide) (br_t (by decide) hp)))))
  · subst e
    rw [if_neg (by decide), if_neg (by decide), if_neg (by decide), if_pos (by decide)] at hp
    refine br_f (by decide) (br_f (by decide) (br_f (by decide) (br_f (by decide) (br_f (by decide) (br_f (by decide) (br_t (by decide) (br_c (fun z => ?_) (fun z => ?_))))))))
    · rw [if_neg (Int32.not_lt.mpr z)] at hp
      exact hp
    · rw [if_pos (Int32.not_le.mp z)] at hp
      exact hp
  · subst e
    rw [if_neg (by decide), if_neg (by decide), if_neg (by decide), if_neg (by decide)] at hp
    refine br_f (by decide) (br_t (by decide) (br_c (fun z => ?_) (fun z => ⟨z, ?_⟩)))
    · rw [if_pos z] at hp
      exact hp
    · rw [if_neg z] at hp
      exact hp
theorem yv_jn {post : Int64 → Prop} {x y : Int64} (hy : ¬ y = fz_N) (hp : post (fz_j x y)) : wpY_joined post x y := by
  unfold fz_j at hp
  by_cases h1 : x = fz_N
  · rw [if_pos (Or.inl h1)] at hp
    exact br_t h1 hp
  · refine br_f h1 (br_f hy ?_)
    by_cases h2 : x = y
    · rw [if_pos (Or.inr h2), ← h2] at hp
      exact br_t h2 hp
    · rw [if_neg (fun z => z.elim h1 h2)] at hp
      exact br_f h2 hp
theorem yv_cp {x : Int64} (h : fz_ok x) (n : ¬ x = fz_V) : x.toInt32.toInt64 = x := by
  obtain ⟨c, e⟩ := h.resolve_left n
  rw [e, Int32.toInt32_toInt64]
/-- what the reference holds of p -/
def yv_ag (p : (Nat → Int64) × (Nat → Bool)) (yg : Nat → Int64) (yo : Nat → Int32) : Prop := (∀ j, j < 96 → yg j = p.1 j) ∧ (∀ i, i < 16 → (p.2 i = true → yo i = 1) ∧ (p.2 i = false → yo i = 0))
section
variable {n k : Nat} {ym yr yb yl : Int32} {sz kd ev th el op rs fi se us f1 f2 yv nd ru eg yo yw : Nat → Int32} {yg nw : Nat → Int64}
theorem yv_vs {post : Int64 → Prop} {q : Nat} {nv : Nat → Int64} (hq : q < 64) (h : fe_i1 op rs fi se q) (hw : ∀ v, v < 6 → nw v = nv v) (hok : ∀ v, fz_ok (nv v)) (hp : post (fz_v (op q) (fi q) (se q) nv)) : wpY_set post ((nI n), (nI k), ym, yr, yb, yl, sz, op, rs, fi, se, kd, us, f1, f2, yv, nd, ru, eg, yg, nw, yo, yw) (nI q) := by
  obtain ⟨⟨o, ho, eo, ha, hc⟩, _⟩ := h
  have c : (nI q).toNatClampNeg = q := nI_clamp (by omega)
  have vi : vp_in (nI q) 64 := vp_in_nI hq (by omega)
  unfold fz_v at hp
  rw [eo] at hp
  by_cases o7 : o = 7
  · subst o7
    rw [if_pos (by decide)] at hp
    exact ⟨vi, br_t (by rw [c, eo]; rfl) hp⟩
  have n7 : ¬ nI o = 7 := fun z => o7 ((nI_eq (b := 7) (by omega) (by decide)).mp z)
  rw [if_neg n7] at hp
  refine ⟨vi, br_f (by rw [c, eo]; exact n7) ⟨vi, ?_⟩⟩
  by_cases o0 : o = 0
  · subst o0
    rw [if_pos (by decide)] at hp
    refine br_t (by rw [c, eo]; rfl) ⟨vi, ?_⟩
    rw [c]
    exact hp
  have n0 : ¬ nI o = 0 := fun z => o0 ((nI_eq (b := 0) (by omega) (by decide)).mp z)
  rw [if_neg n0] at hp
  obtain ⟨wa, hwa, ea⟩ := ha (by omega) (by omega)
  have ca : (nI wa).toNatClampNeg = wa := nI_clamp (by omega)
  rw [ea, ca] at hp
  refine br_f (by rw [c, eo]; exact n0) ⟨vi, by rw [c, ea]; exact vp_in_nI (by omega) (by omega), ?_⟩
  intro x ex
  rw [c, ea, ca, hw wa hwa] at ex
  subst ex
  refine ⟨vi, ?_⟩
  by_cases o1 : o = 1
  · subst o1
    rw [if_pos (by decide)] at hp
    refine br_t (by rw [c, eo]; rfl) ⟨vi, br_f (by rw [c, eo]; decide) ?_⟩
    by_cases z : nv wa = fz_V
    · rw [z] at hp
      exact br_t z hp
    · refine br_f z (br_f z ⟨vi, ?_⟩)
      rw [c, eo]
      refine yv_rk1 ?_
      rw [yv_cp (hok wa) z]
      exact hp
  have n1 : ¬ nI o = 1 := fun z => o1 ((nI_eq (b := 1) (by omega) (by decide)).mp z)
  rw [if_neg n1] at hp
  obtain ⟨wb, hwb, eb⟩ := hc (by omega) (by omega)
  have cb : (nI wb).toNatClampNeg = wb := nI_clamp (by omega)
  rw [eb, cb] at hp
  refine br_f (by rw [c, eo]; exact n1) ⟨vi, by rw [c, eb]; exact vp_in_nI (by omega) (by omega), ?_⟩
  rw [c, eb, cb, hw wb hwb]
  have w96 : (¬ (nI o = 4 ∧ (nv wa = 0 ∨ nv wb = 0))) → wY_set_96 post (nI q) (nv wa) (nv wb) (nI n) (nI k) ym yr yb yl sz op rs fi se kd us f1 f2 yv nd ru eg yg nw yo yw := by
    intro nz
    rw [if_neg nz] at hp
    by_cases z1 : nv wa = fz_V
    · rw [if_pos (Or.inl z1)] at hp
      exact br_t z1 hp
    · by_cases z2 : nv wb = fz_V
      · rw [if_pos (Or.inr z2)] at hp
        exact br_f z1 (br_t z2 hp)
      · rw [if_neg (fun z => z.elim z1 z2)] at hp
        refine br_f z1 (br_f z2 ⟨vi, ?_⟩)
        rw [c, eo]
        exact yv_rk (by omega) (by omega) hp
  by_cases o4 : nI o = 4
  · refine ⟨vi, br_t (by rw [c, eo]; exact o4) ?_⟩
    by_cases z1 : nv wa = 0
    · rw [if_pos ⟨o4, Or.inl z1⟩] at hp
      exact br_t z1 hp
    · refine br_f z1 ?_
      by_cases z2 : nv wb = 0
      · rw [if_pos ⟨o4, Or.inr z2⟩] at hp
        exact br_t z2 hp
      · exact br_f z2 (w96 (fun z => z.2.elim z1 z2))
  · exact ⟨vi, br_f (by rw [c, eo]; exact o4) (w96 (fun z => o4 z.1))⟩
theorem yv_go (hn : n ≤ 16) (is : fe_is n sz op rs fi se) {post : SY → Prop} {b : Nat} {B : Nat → Int64} (hb : b < n) (hB : ∀ v, v < 6 → yg (6 * b + v) = B (6 * b + v)) (hok : ∀ v, v < 6 → fz_ok (B (6 * b + v)))
    (hp : ∀ nw', (∀ v, v < 6 → nw' v = fz_en sz op rs fi se B b v) → post ((nI n), (nI k), ym, yr, yb, yl, sz, op, rs, fi, se, kd, us, f1, f2, yv, nd, ru, eg, yg, nw', yo, yw)) : wpY_go post ((nI n), (nI k), ym, yr, yb, yl, sz, op, rs, fi, se, kd, us, f1, f2, yv, nd, ru, eg, yg, nw, yo, yw) (nI b) := by
  obtain ⟨s, hs, es, cs, hin⟩ := fe_ix is hb
  have c : (nI b).toNatClampNeg = b := nI_clamp (by omega)
  have vi : vp_in (nI b) 16 := vp_in_nI (by omega) (by omega)
  unfold fz_en at hp
  rw [cs] at hp
  have e5 : ((4 : Int32) * nI b) + sz (nI b).toNatClampNeg = nI (4 * b + s) := by rw [ys_4, c, es, nI_add]
  have L2 : ∀ m i nw', i ≤ s → s - i < m → (∀ v, v < 6 → nw' v = fz_th op rs fi se (4 * b) (fz_bg B b) i v) → wY_go_35 post (nI b) (nI n) (nI k) ym yr yb yl m (nI (4 * b + i)) sz op rs fi se kd us f1 f2 yv nd ru eg yg nw' yo yw := by
    intro m
    induction m with
    | zero => intro i nw' _ h; omega
    | succ m ih =>
      intro i nw' hi hm h1
      by_cases e : i = s
      · subst e
        exact ⟨vi, br_t (by rw [e5]; exact Int32.le_refl _) (hp nw' h1)⟩
      · obtain ⟨hcl, v, hv, ev2⟩ := hin i (by omega)
        clear hcl
        have c4 : (nI (4 * b + i)).toNatClampNeg = 4 * b + i := nI_clamp (by omega)
        refine ⟨vi, br_f (by rw [e5]; exact nI_ge (by omega) (by omega)) (yv_vs (by omega) (hin i (by omega)) h1 (fz_thok (fz_bgok hok) i) ⟨vp_in_nI (by omega) (by omega), ?_, ?_⟩)⟩
        · rw [c4, ev2]
          exact vp_in_nI (by omega) (by omega)
        · intro y ey
          rw [c4, ev2, nI_clamp (by omega)] at ey
          subst ey
          refine nm_r (nI_1 _) (ih (i + 1) _ (by omega) (by omega) (fun w hw => ?_))
          show vp_updL _ _ _ _ = vp_updL _ _ _ _
          rw [ev2, nI_clamp (by omega)]
          by_cases ew : w = v
          · rw [ew, pk_uLs, pk_uLs]
          · rw [pk_uLn ew, pk_uLn ew]
            exact h1 w hw
  have L1 : ∀ m v nw', v ≤ 6 → 6 - v < m → (∀ w, w < v → nw' w = B (6 * b + w)) → wY_go_2 post (nI b) (nI n) (nI k) ym yr yb yl m (nI v) sz op rs fi se kd us f1 f2 yv nd ru eg yg nw' yo yw := by
    intro m
    induction m with
    | zero => intro i nw' _ h; omega
    | succ m ih =>
      intro v nw' hv hm h1
      by_cases e : v = 6
      · subst e
        refine br_t (by decide) (nm_r (ys_4 b) ⟨s + 1, L2 (s + 1) 0 nw' (by omega) (by omega) (fun w hw => ?_)⟩)
        show nw' w = fz_bg B b w
        unfold fz_bg
        rw [if_pos hw]
        exact h1 w hw
      · have c6 : (nI (6 * b + v)).toNatClampNeg = 6 * b + v := nI_clamp (by omega)
        have cv : (nI v).toNatClampNeg = v := nI_clamp (by omega)
        refine br_f (nI_ge (b := 6) (by omega) (by decide)) ⟨by rw [yv_6]; exact vp_in_nI (by omega) (by omega), vp_in_nI (by omega) (by omega), ?_⟩
        intro y ey
        rw [yv_6, c6, cv] at ey
        subst ey
        refine nm_r (nI_1 v) (ih (v + 1) _ (by omega) (by omega) (fun w hw => ?_))
        by_cases ew : w = v
        · rw [ew, pk_uLs]
          exact hB v (by omega)
        · rw [pk_uLn ew]
          exact h1 w (by omega)
  exact ⟨7, L1 7 0 nw (by omega) (by omega) (fun w hw => absurd hw (Nat.not_lt_zero w))⟩
theorem yv_ld (ok : fe_ok n kd th el) (hev : fe_ev n kd ev) (rl : fe_rl n kd ev th el us f1 f2) {post : Int32 → Prop} {b : Nat} {nv : Nat → Int64} (hb : b < n) (hw : ∀ v, v < 6 → nw v = nv v)
    (h0 : ¬ fz_lt kd b (nv (ev b).toNatClampNeg) → post 0) (h1 : fz_lt kd b (nv (ev b).toNatClampNeg) → post 1) : wpY_leads post ((nI n), (nI k), ym, yr, yb, yl, sz, op, rs, fi, se, kd, us, f1, f2, yv, nd, ru, eg, yg, nw, yo, yw) (nI b) 0 := by
  have hn := ok.1
  have c : (nI b).toNatClampNeg = b := nI_clamp (by omega)
  have vi : vp_in (nI b) 16 := vp_in_nI (by omega) (by omega)
  have hV : ¬ fz_V = 0 := by decide
  refine fe_cs ok hb (fun k0 => ?_) (fun t k1 _ ht e1 => ?_) (fun t t' k2 _ ht e1 _ ht' e2 => ?_)
  · exact ⟨vi, br_t (by rw [c]; exact k0) (h0 (fun z => fz_ltn z k0))⟩
  · exact ⟨vi, br_f (by rw [c, k1]; decide) (br_t rfl ⟨vi, br_t (by rw [c]; exact k1) ⟨vi, br_t (by rw [c]; exact k1) (h1 (Or.inl k1))⟩⟩)⟩
  · have n1 : ¬ kd b = 1 := by rw [k2]; decide
    obtain ⟨v, hv, e3⟩ := hev b hb n1
    have eu : us b = nI v := ((rl b hb).2.1 n1).trans e3
    have cv : (nI v).toNatClampNeg = v := nI_clamp (by omega)
    rw [e3, cv] at h0 h1
    refine ⟨vi, br_f (by rw [c, k2]; decide) (br_t rfl ⟨vi, br_f (by rw [c, k2]; decide) ⟨vi, by rw [c, eu]; exact vp_in_nI (by omega) (by omega), ?_⟩⟩)⟩
    rw [c, eu, cv, hw v hv]
    refine ⟨vi, br_f (by rw [c, k2]; decide) ?_⟩
    by_cases z : nv v = fz_V
    · exact br_t z (h1 (Or.inr ⟨k2, by rw [z]; exact hV⟩))
    · refine br_f z ?_
      by_cases q : nv v = 0
      · exact br_t q (br_f (by decide) (h0 (fun w => w.elim n1 (fun y => y.2 q))))
      · exact br_f q (br_t rfl (h1 (Or.inr ⟨k2, q⟩)))
theorem yv_l2 (ok : fe_ok n kd th el) (hev : fe_ev n kd ev) (rl : fe_rl n kd ev th el us f1 f2) {post : Int32 → Prop} {b : Nat} {nv : Nat → Int64} (hb : b < n) (hw : ∀ v, v < 6 → nw v = nv v)
    (h0 : ¬ fz_l2 kd b (nv (ev b).toNatClampNeg) → post 0) (h1 : fz_l2 kd b (nv (ev b).toNatClampNeg) → post 1) : wpY_leads post ((nI n), (nI k), ym, yr, yb, yl, sz, op, rs, fi, se, kd, us, f1, f2, yv, nd, ru, eg, yg, nw, yo, yw) (nI b) 1 := by
  have hn := ok.1
  have c : (nI b).toNatClampNeg = b := nI_clamp (by omega)
  have vi : vp_in (nI b) 16 := vp_in_nI (by omega) (by omega)
  refine fe_cs ok hb (fun k0 => ?_) (fun t k1 _ ht e1 => ?_) (fun t t' k2 _ ht e1 _ ht' e2 => ?_)
  · refine ⟨vi, br_t (by rw [c]; exact k0) (h0 (fun z => ?_))⟩
    have := z.1
    rw [k0] at this
    exact absurd this (by decide)
  · refine ⟨vi, br_f (by rw [c, k1]; decide) (br_f (by decide) ⟨vi, br_t (by rw [c]; exact k1) (h0 (fun z => ?_))⟩)⟩
    have := z.1
    rw [k1] at this
    exact absurd this (by decide)
  · have n1 : ¬ kd b = 1 := by rw [k2]; decide
    obtain ⟨v, hv, e3⟩ := hev b hb n1
    have eu : us b = nI v := ((rl b hb).2.1 n1).trans e3
    have cv : (nI v).toNatClampNeg = v := nI_clamp (by omega)
    rw [e3, cv] at h0 h1
    refine ⟨vi, br_f (by rw [c, k2]; decide) (br_f (by decide) ⟨vi, br_f (by rw [c, k2]; decide) ⟨vi, br_f (by rw [c, k2]; decide) ⟨vi, by rw [c, eu]; exact vp_in_nI (by omega) (by omega), ?_⟩⟩⟩)⟩
    rw [c, eu, cv, hw v hv]
    refine ⟨vi, br_f (by rw [c, k2]; decide) ?_⟩
    by_cases z : nv v = fz_V
    · exact br_t z (h1 ⟨k2, Or.inr z⟩)
    · refine br_f z ?_
      by_cases q : nv v = 0
      · exact br_t q (br_t rfl (h1 ⟨k2, Or.inl q⟩))
      · exact br_f q (br_f (by decide) (h0 (fun w => w.2.elim q z)))
theorem yv_wd {post : Int32 → SY → Prop} {t : Nat} {p : (Nat → Int64) × (Nat → Bool)} {nv : Nat → Int64} (ht : t < 16) (ag : yv_ag p yg yo) (hw : ∀ v, v < 6 → nw v = nv v) (hok : ∀ v, fz_ok (nv v))
    (hp : ∀ r yg' yo', (r = 0 ∨ r = 1) → yv_ag (fz_sp t nv p) yg' yo' → (r = 0 → fz_sp t nv p = p) → (r = 1 → fz_mu p < fz_mu (fz_sp t nv p)) → post r ((nI n), (nI k), ym, yr, yb, yl, sz, op, rs, fi, se, kd, us, f1, f2, yv, nd, ru, eg, yg', nw, yo', yw)) : wpY_widened post ((nI n), (nI k), ym, yr, yb, yl, sz, op, rs, fi, se, kd, us, f1, f2, yv, nd, ru, eg, yg, nw, yo, yw) (nI t) := by
  have hmu := fz_sp_mu (p := p) ht hok
  have ct : (nI t).toNatClampNeg = t := nI_clamp (by omega)
  have vt : vp_in (nI t) 16 := vp_in_nI (by omega) (by omega)
  have L : ∀ yo', (∀ i, i < 16 → ((fz_sp t nv p).2 i = true → yo' i = 1) ∧ ((fz_sp t nv p).2 i = false → yo' i = 0)) → ∀ m v ch yg', v ≤ 6 → 6 - v < m → (ch = 0 ∨ ch = 1) → (∀ w, w < v → yg' (6 * t + w) = fz_j (p.1 (6 * t + w)) (nv w)) → (∀ j, j < 96 → (j < 6 * t ∨ 6 * t + v ≤ j) → yg' j = p.1 j) →
      (ch = 0 ↔ (p.2 t = true ∧ ∀ w, w < v → fz_j (p.1 (6 * t + w)) (nv w) = p.1 (6 * t + w))) → wY_widened_24 post (nI t) (nI n) (nI k) ym yr yb yl m ch (nI v) sz op rs fi se kd us f1 f2 yv nd ru eg yg' nw yo' yw := by
    intro yo' hyo m
    induction m with
    | zero => intro v ch yg' _ h; omega
    | succ m ih =>
      intro v ch yg' hv hm hch h1 h2 h3
      by_cases e : v = 6
      · subst e
        refine br_t (by decide) ⟨by rcases hch with z | z <;> rw [z] <;> rfl, hp ch yg' yo' hch ⟨fun j hj => ?_, hyo⟩ (fun z => ?_) (fun z => hmu.2 ?_)⟩
        · unfold fz_sp
          dsimp only
          by_cases q : 6 * t ≤ j ∧ j < 6 * t + 6
          · rw [if_pos q]
            have := h1 (j - 6 * t) (by omega)
            have e2 : 6 * t + (j - 6 * t) = j := by omega
            rw [e2] at this
            exact this
          · rw [if_neg q]
            exact h2 j hj (by omega)
        · have z2 := h3.mp z
          exact fz_sp_eq z2.1 z2.2
        · apply Classical.byContradiction
          intro w
          have : ch = 0 := by
            refine h3.mpr ⟨?_, fun v hv => ?_⟩
            · cases hpt : p.2 t
              · exact absurd (Or.inl hpt) w
              · rfl
            · apply Classical.byContradiction
              intro w2
              exact w (Or.inr ⟨v, hv, w2⟩)
          rw [this] at z
          exact absurd z (by decide)
      · have c6 : (nI (6 * t + v)).toNatClampNeg = 6 * t + v := nI_clamp (by omega)
        have cv : (nI v).toNatClampNeg = v := nI_clamp (by omega)
        have v6 : vp_in (6 * nI t + nI v) 96 := by rw [yv_6]; exact vp_in_nI (by omega) (by omega)
        have ebg : yg' (6 * t + v) = p.1 (6 * t + v) := h2 _ (by omega) (by omega)
        have nx : ∀ ch' : Int32, (ch' = 0 ∨ ch' = 1) → (ch' = 0 ↔ (ch = 0 ∧ fz_j (p.1 (6 * t + v)) (nv v) = p.1 (6 * t + v))) →
            wY_widened_71 post (wY_widened_24 post (nI t) (nI n) (nI k) ym yr yb yl m) (nI t) ch' (nI v) (fz_j (p.1 (6 * t + v)) (nv v)) (nI n) (nI k) ym yr yb yl sz op rs fi se kd us f1 f2 yv nd ru eg yg' nw yo' yw := by
          intro ch' h4 h5
          refine ⟨v6, ?_⟩
          intro y ey
          rw [yv_6, c6] at ey
          subst ey
          refine nm_r (nI_1 v) (ih (v + 1) ch' _ (by omega) (by omega) h4 (fun w hw => ?_) (fun j hj hj2 => ?_) ?_)
          · by_cases ew : w = v
            · rw [ew, pk_uLs]
            · rw [pk_uLn (by omega)]
              exact h1 w (by omega)
          · rw [pk_uLn (by omega)]
            exact h2 j hj (by omega)
          · rw [h5, h3]
            constructor
            · rintro ⟨⟨z1, z2⟩, z3⟩
              refine ⟨z1, fun w hw => ?_⟩
              by_cases ew : w = v
              · rw [ew]; exact z3
              · exact z2 w (by omega)
            · rintro ⟨z1, z2⟩
              exact ⟨⟨z1, fun w hw => z2 w (by omega)⟩, z2 v (by omega)⟩
        refine br_f (nI_ge (b := 6) (by omega) (by decide)) ⟨v6, vp_in_nI (by omega) (by omega), ?_⟩
        rw [yv_6, c6, ebg, cv, hw v (by omega)]
        refine yv_jn (fz_okN (hok v)) ⟨vp_in_nI (by omega) (by omega), ?_⟩
        by_cases q : fz_j (p.1 (6 * t + v)) (nv v) = p.1 (6 * t + v)
        · exact br_t q (nx ch hch ⟨fun z => ⟨z, q⟩, fun z => z.1⟩)
        · exact br_f q (nx 1 (Or.inr rfl) ⟨fun w => absurd w (by decide), fun w => absurd w.2 q⟩)
  have hyo : ∀ y, y = upd yo t (vp_nar .boolean 1) → ∀ i, i < 16 → ((fz_sp t nv p).2 i = true → y i = 1) ∧ ((fz_sp t nv p).2 i = false → y i = 0) := by
    intro y ey i hi
    rw [yv_n1] at ey
    subst ey
    by_cases e : i = t
    · subst e
      rw [pk_us]
      refine ⟨fun _ => rfl, fun z => ?_⟩
      rw [fz_sp3.mpr (Or.inr rfl)] at z
      exact absurd z (by decide)
    · rw [pk_un e]
      refine ⟨fun z => (ag.2 i hi).1 ((fz_sp3.mp z).resolve_right e), fun z => (ag.2 i hi).2 ?_⟩
      cases q : p.2 i
      · rfl
      · rw [fz_sp3.mpr (Or.inl q)] at z
        exact absurd z (by decide)
  cases hpt : p.2 t
  · refine ⟨vt, br_t (by rw [ct]; exact (ag.2 t ht).2 hpt) ⟨vt, ?_⟩⟩
    intro y ey
    rw [ct] at ey
    refine ⟨7, L y (hyo y ey) 7 0 1 yg (by omega) (by omega) (Or.inr rfl) (fun w hw => absurd hw (Nat.not_lt_zero w)) (fun j hj _ => ag.1 j hj) ⟨fun w => absurd w (by decide), fun w => ?_⟩⟩
    rw [hpt] at w
    exact absurd w.1 (by decide)
  · refine ⟨vt, br_f (by rw [ct, (ag.2 t ht).1 hpt]; decide) ⟨vt, ?_⟩⟩
    intro y ey
    rw [ct] at ey
    refine ⟨7, L y (hyo y ey) 7 0 0 yg (by omega) (by omega) (Or.inl rfl) (fun w hw => absurd hw (Nat.not_lt_zero w)) (fun j hj _ => ag.1 j hj) ⟨fun _ => ⟨hpt, fun w hw => absurd hw (Nat.not_lt_zero w)⟩, fun _ => rfl⟩⟩
end
end
section
section
variable {n k : Nat} {ym yr yb yl : Int32} {sz kd ev th el op rs fi se us f1 f2 yv nd ru eg yo yw : Nat → Int32} {yg nw : Nat → Int64}
theorem yv_163 (ok : fe_ok n kd th el) (hev : fe_ev n kd ev) (rl : fe_rl n kd ev th el us f1 f2) {post : SY → Prop}
    {J106 : Int32 → Int32 → Int32 → Int32 → Int32 → Int32 → Int32 → (Nat → Int32) → (Nat → Int32) → (Nat → Int32) → (Nat → Int32) → (Nat → Int32) → (Nat → Int32) → (Nat → Int32) → (Nat → Int32) → (Nat → Int32) → (Nat → Int32) → (Nat → Int32) → (Nat → Int32) → (Nat → Int32) → (Nat → Int64) → (Nat → Int64) → (Nat → Int32) → (Nat → Int32) → Prop}
    {J114 : Int32 → Int32 → Int32 → Int32 → Int32 → Int32 → Int32 → Int32 → (Nat → Int32) → (Nat → Int32) → (Nat → Int32) → (Nat → Int32) → (Nat → Int32) → (Nat → Int32) → (Nat → Int32) → (Nat → Int32) → (Nat → Int32) → (Nat → Int32) → (Nat → Int32) → (Nat → Int32) → (Nat → Int32) → (Nat → Int64) → (Nat → Int64) → (Nat → Int32) → (Nat → Int32) → Prop}
    {b : Nat} {p p1 : (Nat → Int64) × (Nat → Bool)} {nv : Nat → Int64} {x1 : Int32} (hb : b < n) (ag : yv_ag p1 yg yo) (hw : ∀ v, v < 6 → nw v = nv v) (hok : ∀ v, fz_ok (nv v))
    (h4 : (x1 = 1 ∧ fz_mu p < fz_mu p1) ∨ (x1 = 0 ∧ p1 = p))
    (hp : ∀ r yg' yo', yv_ag (fz_s2 kd ev el b nv p1) yg' yo' → ((r = 1 ∧ fz_mu p < fz_mu (fz_s2 kd ev el b nv p1)) ∨ (r = 0 ∧ fz_s2 kd ev el b nv p1 = p)) → J114 r (nI (b + 1)) (nI n) (nI k) ym yr yb yl sz op rs fi se kd us f1 f2 yv nd ru eg yg' nw yo' yw) :
    wY_solve_163 post J106 J114 x1 (nI b) (nI n) (nI k) ym yr yb yl sz op rs fi se kd us f1 f2 yv nd ru eg yg nw yo yw := by
  unfold wY_solve_163
  have hn := ok.1
  have c : (nI b).toNatClampNeg = b := nI_clamp (by omega)
  unfold fz_s2 at hp
  refine yv_l2 ok hev rl hb hw (fun h3 => br_t rfl (nm_r (nI_1 b) ?_)) (fun h3 => br_f (by decide) ⟨vp_in_nI (by omega) (by omega), ?_⟩)
  · rw [if_neg h3] at hp
    exact hp x1 yg yo ag h4
  · rw [if_pos h3] at hp
    obtain ⟨t, _, ht, et⟩ := (ok.2 b hb).2.2 h3.1
    have ct : (el b).toNatClampNeg = t := by rw [et, nI_clamp (by omega)]
    rw [ct] at hp
    have e2 : f2 b = nI t := ((rl b hb).2.2.2 h3.1).trans et
    rw [c, e2]
    have hmu := (fz_sp_mu (p := p1) (nw := nv) (t := t) (by omega) hok).1
    refine yv_wd (by omega) ag hw hok (fun r yg' yo' hr ag' h0 h1 => ?_)
    rcases hr with q | q
    · refine br_t q (nm_r (nI_1 b) (hp x1 yg' yo' ag' ?_))
      rw [h0 q]
      exact h4
    · refine br_f (by rw [q]; decide) (nm_r (nI_1 b) (hp 1 yg' yo' ag' (Or.inl ⟨rfl, ?_⟩)))
      have h5 := h1 q
      rcases h4 with w | w
      · have := w.2
        omega
      · rw [w.2] at h5 ⊢
        exact h5
theorem yv_rd (ok : fe_ok n kd th el) (hev : fe_ev n kd ev) (rl : fe_rl n kd ev th el us f1 f2) (is : fe_is n sz op rs fi se) {post : SY → Prop}
    {J : Int32 → Int32 → Int32 → Int32 → Int32 → Int32 → Int32 → (Nat → Int32) → (Nat → Int32) → (Nat → Int32) → (Nat → Int32) → (Nat → Int32) → (Nat → Int32) → (Nat → Int32) → (Nat → Int32) → (Nat → Int32) → (Nat → Int32) → (Nat → Int32) → (Nat → Int32) → (Nat → Int32) → (Nat → Int64) → (Nat → Int64) → (Nat → Int32) → (Nat → Int32) → Prop}
    {p0 : (Nat → Int64) × (Nat → Bool)}
    (hJ : ∀ ch p yg' nw' yo', p = fz_rd sz kd ev th el op rs fi se p0 n → yv_ag p yg' yo' → fz_iv n p → ((ch = 1 ∧ fz_mu p0 < fz_mu p) ∨ (ch = 0 ∧ p = p0)) → J ch (nI n) (nI k) ym yr yb yl sz op rs fi se kd us f1 f2 yv nd ru eg yg' nw' yo' yw) :
    ∀ m x ch p yg' nw' yo', x ≤ n → n - x < m → p = fz_rd sz kd ev th el op rs fi se p0 x → yv_ag p yg' yo' → fz_iv n p → ((ch = 1 ∧ fz_mu p0 < fz_mu p) ∨ (ch = 0 ∧ p = p0)) →
      wY_solve_114 post J m ch (nI x) (nI n) (nI k) ym yr yb yl sz op rs fi se kd us f1 f2 yv nd ru eg yg' nw' yo' yw := by
  have hn := ok.1
  have htg := fz_tgo ok
  intro m
  induction m with
  | zero => intro x ch p yg' nw' yo' _ h; omega
  | succ m ih =>
    intro x ch p yg' nw' yo' hx hm ep ag iv hch
    by_cases e : x = n
    · have e' := e.symm
      subst e'
      exact br_t (Int32.le_refl _) (hJ ch p yg' nw' yo' ep ag iv hch)
    · have hxn : x < n := by omega
      have c : (nI x).toNatClampNeg = x := nI_clamp (by omega)
      have vi : vp_in (nI x) 16 := vp_in_nI (by omega) (by omega)
      refine br_f (nI_ge hxn (by omega)) ⟨vi, ?_⟩
      cases hpx : p.2 x
      · have e2 : fz_rd sz kd ev th el op rs fi se p0 (x + 1) = p := by
          show fz_st sz kd ev th el op rs fi se x (fz_rd sz kd ev th el op rs fi se p0 x) = p
          rw [← ep]
          exact if_neg (by rw [hpx]; decide)
        exact br_t (by rw [c]; exact (ag.2 x (by omega)).2 hpx) (nm_r (nI_1 x) (ih (x + 1) ch p yg' nw' yo' (by omega) (by omega) e2.symm ag iv hch))
      · refine br_f (by rw [c, (ag.2 x (by omega)).1 hpx]; decide) ?_
        have nok := fz_enok (sz := sz) (op := op) (d := rs) (a := fi) (b := se) iv hpx
        refine yv_go hn is (B := p.1) hxn (fun v hv => ag.1 _ (by omega)) ((iv x).1 hpx).2 (fun nw2 hen => ?_)
        have e2 : fz_rd sz kd ev th el op rs fi se p0 (x + 1) = fz_s2 kd ev el x (fz_en sz op rs fi se p.1 x) (fz_s1 kd ev th x (fz_en sz op rs fi se p.1 x) p) := by
          show fz_st sz kd ev th el op rs fi se x (fz_rd sz kd ev th el op rs fi se p0 x) = _
          rw [← ep]
          exact if_pos hpx
        have sta := fz_sta (sz := sz) (ev := ev) (op := op) (d := rs) (a := fi) (b := se) (x := x) htg hxn iv
        have e3 : fz_st sz kd ev th el op rs fi se x p = fz_s2 kd ev el x (fz_en sz op rs fi se p.1 x) (fz_s1 kd ev th x (fz_en sz op rs fi se p.1 x) p) := if_pos hpx
        rw [e3] at sta
        have e1 : fz_s1 kd ev th x (fz_en sz op rs fi se p.1 x) p = if fz_lt kd x (fz_en sz op rs fi se p.1 x (ev x).toNatClampNeg) then fz_sp (th x).toNatClampNeg (fz_en sz op rs fi se p.1 x) p else p := rfl
        have nx : ∀ ch1 p1 yg1 yo1, yv_ag p1 yg1 yo1 → p1 = fz_s1 kd ev th x (fz_en sz op rs fi se p.1 x) p → ((ch1 = 1 ∧ fz_mu p0 < fz_mu p1) ∨ (ch1 = 0 ∧ p1 = p0)) → wY_solve_163 post J (wY_solve_114 post J m) ch1 (nI x) (nI n) (nI k) ym yr yb yl sz op rs fi se kd us f1 f2 yv nd ru eg yg1 nw2 yo1 yw := by
          intro ch1 p1 yg1 yo1 ag1 ep1 h4
          refine yv_163 ok hev rl hxn ag1 hen nok h4 (fun r yg2 yo2 ag2 hr => ?_)
          subst ep1
          exact ih (x + 1) r _ yg2 nw2 yo2 (by omega) (by omega) e2.symm ag2 sta.1 hr
        refine yv_ld ok hev rl hxn hen (fun h3 => br_t rfl ?_) (fun h3 => br_f (by decide) ⟨vi, ?_⟩)
        · rw [if_neg h3] at e1
          exact nx ch p yg' yo' ag e1.symm hch
        · rw [if_pos h3] at e1
          obtain ⟨t, _, ht, et⟩ := (ok.2 x hxn).2.1 (fz_ltn h3)
          have ct : (th x).toNatClampNeg = t := by rw [et, nI_clamp (by omega)]
          rw [ct] at e1
          have e4 : f1 x = nI t := ((rl x hxn).2.2.1 (fz_ltn h3)).trans et
          rw [c, e4]
          refine yv_wd (by omega) ag hen nok (fun r yg1 yo1 hr ag1 h0 h1 => ?_)
          rcases hr with q | q
          · refine br_t q (nx ch _ yg1 yo1 ag1 e1.symm ?_)
            rw [h0 q]
            exact hch
          · refine br_f (by rw [q]; decide) (nx 1 _ yg1 yo1 ag1 e1.symm (Or.inl ⟨rfl, ?_⟩))
            have h5 := h1 q
            rcases hch with w | w
            · have := w.2
              omega
            · rw [w.2] at h5 ⊢
              exact h5
theorem yv_sol (ok : fe_ok n kd th el) (hev : fe_ev n kd ev) (rl : fe_rl n kd ev th el us f1 f2) (is : fe_is n sz op rs fi se) (hk : k ≤ 3) {post : SY → Prop}
    (hp : ∀ p yg' nw' yo', fz_so sz kd ev th el op rs fi se n (fz_p0 n k) p → yv_ag p yg' yo' → fz_iv n p → post ((nI n), (nI k), ym, yr, yb, yl, sz, op, rs, fi, se, kd, us, f1, f2, yv, nd, ru, eg, yg', nw', yo', yw)) : wpY_solve post ((nI n), (nI k), ym, yr, yb, yl, sz, op, rs, fi, se, kd, us, f1, f2, yv, nd, ru, eg, yg, nw, yo, yw) := by
  have hn := ok.1
  have L1 : ∀ m p yg' nw' yo', 211 - fz_mu p < m → (∃ q, p = fz_it sz kd ev th el op rs fi se n (fz_p0 n k) q) → yv_ag p yg' yo' → fz_iv n p → wY_solve_106 post m 1 (nI n) (nI k) ym yr yb yl sz op rs fi se kd us f1 f2 yv nd ru eg yg' nw' yo' yw := by
    intro m
    induction m with
    | zero => intro p yg' nw' yo' h; omega
    | succ m ih =>
      intro p yg' nw' yo' hm hq ag iv
      have hb := fz_mub p
      refine br_f (by decide) ⟨n + 1, yv_rd ok hev rl is (fun ch p2 yg2 nw2 yo2 e2 ag2 iv2 hch => ?_) (n + 1) 0 0 p yg' nw' yo' (by omega) (by omega) rfl ag iv (Or.inr ⟨rfl, rfl⟩)⟩
      rcases hch with ⟨w1, w2⟩ | ⟨w1, w2⟩
      · subst w1
        refine ih p2 yg2 nw2 yo2 (by omega) ?_ ag2 iv2
        obtain ⟨q, hq⟩ := hq
        exact ⟨q + 1, by rw [e2, hq]; rfl⟩
      · subst w1
        subst w2
        cases m with
        | zero => omega
        | succ m => exact br_t rfl (hp p2 yg2 nw2 yo2 ⟨hq, e2.symm⟩ ag2 iv2)
  have L86 : ∀ yg' yo', (∀ j, j < 96 → yg' j = (fz_p0 n k).1 j) → (∀ i, i < 16 → yo' i = 0) → wY_solve_86 post (nI n) (nI k) ym yr yb yl sz op rs fi se kd us f1 f2 yv nd ru eg yg' nw yo' yw := by
    intro yg' yo' h1 h2
    by_cases e : n = 0
    · refine br_t (by rw [e]; decide) ?_
      intro y ey
      rw [yv_n0] at ey
      subst ey
      refine ⟨212, L1 212 (fz_p0 n k) yg' nw _ (by omega) ⟨0, rfl⟩ ⟨h1, fun i hi => ⟨fun z => ?_, fun _ => ?_⟩⟩ (fz_p0iv n k)⟩
      · unfold fz_p0 at z
        dsimp only at z
        have := of_decide_eq_true z
        omega
      · by_cases ei : i = 0
        · rw [ei, pk_us]
        · rw [pk_un ei]; exact h2 i hi
    · refine br_f (nI_nle (by omega) (by omega)) ?_
      intro y ey
      rw [yv_n1] at ey
      subst ey
      refine ⟨212, L1 212 (fz_p0 n k) yg' nw _ (by omega) ⟨0, rfl⟩ ⟨h1, fun i hi => ?_⟩ (fz_p0iv n k)⟩
      unfold fz_p0
      dsimp only
      rw [decide_eq_true_iff, decide_eq_false_iff_not]
      by_cases ei : i = 0
      · rw [ei, pk_us]
        exact ⟨fun _ => rfl, fun z => by omega⟩
      · rw [pk_un ei]
        exact ⟨fun z => absurd z.1 ei, fun _ => h2 i hi⟩
  have L46 : ∀ yo', (∀ i, i < 16 → yo' i = 0) → ∀ m v yg', v ≤ 6 → 6 - v < m → (∀ j, j < v → yg' j = (fz_p0 n k).1 j) → (∀ j, j < 96 → v ≤ j → yg' j = fz_N) → wY_solve_46 post (nI n) (nI k) ym yr yb yl m (nI v) sz op rs fi se kd us f1 f2 yv nd ru eg yg' nw yo' yw := by
    intro yo' hyo m
    induction m with
    | zero => intro v yg' _ h; omega
    | succ m ih =>
      intro v yg' hv hm h1 h2
      have hfin : (v = 6 ∨ n = 0) → wY_solve_86 post (nI n) (nI k) ym yr yb yl sz op rs fi se kd us f1 f2 yv nd ru eg yg' nw yo' yw := by
        intro hor
        refine L86 yg' yo' (fun j hj => ?_) hyo
        by_cases jv : j < v
        · exact h1 j jv
        · rw [h2 j hj (by omega)]
          unfold fz_p0
          dsimp only
          rw [if_neg (by omega)]
      by_cases e6 : v = 6
      · have hf := hfin (Or.inl e6)
        subst e6
        exact br_t (by decide) hf
      · refine br_f (nI_ge (b := 6) (by omega) (by decide)) ?_
        by_cases e0 : n = 0
        · exact br_t (by rw [e0]; decide) (hfin (Or.inr e0))
        · have c : (nI v).toNatClampNeg = v := nI_clamp (by omega)
          have vi : vp_in (nI v) 96 := vp_in_nI (by omega) (by omega)
          have nx : ∀ w : Int64, (w = if v < k then fz_V else 0) → ∀ y, y = vp_updL yg' (nI v).toNatClampNeg w → wY_solve_46 post (nI n) (nI k) ym yr yb yl m (nI (v + 1)) sz op rs fi se kd us f1 f2 yv nd ru eg y nw yo' yw := by
            intro w hw y ey
            rw [c] at ey
            subst ey
            refine ih (v + 1) _ (by omega) (by omega) (fun j hj => ?_) (fun j hj hj2 => ?_)
            · by_cases ej : j = v
              · rw [ej, pk_uLs, hw]
                unfold fz_p0
                dsimp only
                rw [if_pos (by omega : v < 6 ∧ 0 < n)]
              · rw [pk_uLn ej]; exact h1 j (by omega)
            · rw [pk_uLn (by omega)]; exact h2 j hj (by omega)
          refine br_f (nI_nle (by omega) (by omega)) ?_
          by_cases q : k ≤ v
          · exact br_t (nI_le q (by omega)) ⟨vi, fun y ey => nm_r (nI_1 v) (nx 0 (by rw [if_neg (by omega)]) y ey)⟩
          · exact br_f (nI_ge (by omega) (by omega)) ⟨vi, fun y ey => nm_r (nI_1 v) (nx 10000000001 (by rw [if_pos (by omega)]; rfl) y ey)⟩
  have L25 : ∀ yg', (∀ j, j < 96 → yg' j = fz_N) → ∀ m x yo', x ≤ 16 → 16 - x < m → (∀ z, z < x → yo' z = 0) → wY_solve_25 post (nI n) (nI k) ym yr yb yl m (nI x) sz op rs fi se kd us f1 f2 yv nd ru eg yg' nw yo' yw := by
    intro yg' hyg m
    induction m with
    | zero => intro x yo' _ h; omega
    | succ m ih =>
      intro x yo' hx hm hi
      by_cases e : x = 16
      · subst e
        exact br_t (by decide) ⟨7, L46 yo' hi 7 0 yg' (by omega) (by omega) (fun j hj => absurd hj (Nat.not_lt_zero j)) (fun j hj _ => hyg j hj)⟩
      · have c : (nI x).toNatClampNeg = x := nI_clamp (by omega)
        refine br_f (nI_ge (b := 16) (by omega) (by decide)) ⟨vp_in_nI (by omega) (by omega), ?_⟩
        intro y ey
        rw [c, yv_n0] at ey
        subst ey
        refine nm_r (nI_1 x) (ih (x + 1) _ (by omega) (by omega) (fun z hz => ?_))
        by_cases ez : z = x
        · rw [ez, pk_us]
        · rw [pk_un ez]; exact hi z (by omega)
  have L2 : ∀ m x yg', x ≤ 96 → 96 - x < m → (∀ j, j < x → yg' j = fz_N) → wY_solve_2 post (nI n) (nI k) ym yr yb yl m (nI x) sz op rs fi se kd us f1 f2 yv nd ru eg yg' nw yo yw := by
    intro m
    induction m with
    | zero => intro x yg' _ h; omega
    | succ m ih =>
      intro x yg' hx hm hi
      by_cases e : x = 96
      · subst e
        exact br_t (by decide) ⟨17, L25 yg' hi 17 0 yo (by omega) (by omega) (fun z hz => absurd hz (Nat.not_lt_zero z))⟩
      · have c : (nI x).toNatClampNeg = x := nI_clamp (by omega)
        refine br_f (nI_ge (b := 96) (by omega) (by decide)) ⟨vp_in_nI (by omega) (by omega), ?_⟩
        intro y ey
        rw [c] at ey
        subst ey
        refine nm_r (nI_1 x) (ih (x + 1) _ (by omega) (by omega) (fun z hz => ?_))
        by_cases ez : z = x
        · rw [ez, pk_uLs]; rfl
        · rw [pk_uLn ez]; exact hi z (by omega)
  exact ⟨97, L2 97 0 yg (by omega) (by omega) (fun z hz => absurd hz (Nat.not_lt_zero z))⟩
theorem yv_val (ok : fe_ok n kd th el) (hev : fe_ev n kd ev) (rl : fe_rl n kd ev th el us f1 f2) (is : fe_is n sz op rs fi se) (hk : k ≤ 3) {post : Int64 → SY → Prop} {v1 v2 v3 : Int32}
    (h0 : ¬ (∃ b v, b < n ∧ v < 6 ∧ v1 = nI b ∧ v2 = nI v) → post fz_N ((nI n), (nI k), ym, yr, yb, yl, sz, op, rs, fi, se, kd, us, f1, f2, yv, nd, ru, eg, yg, nw, yo, yw))
    (h1 : ∀ b v, b < n → v < 6 → v1 = nI b → v2 = nI v → ∀ p yg' nw' yo', fz_so sz kd ev th el op rs fi se n (fz_p0 n k) p → post (fz_va sz op rs fi se p b v v3) ((nI n), (nI k), ym, yr, yb, yl, sz, op, rs, fi, se, kd, us, f1, f2, yv, nd, ru, eg, yg', nw', yo', yw)) : wpY_value post ((nI n), (nI k), ym, yr, yb, yl, sz, op, rs, fi, se, kd, us, f1, f2, yv, nd, ru, eg, yg, nw, yo, yw) v1 v2 v3 := by
  unfold wpY_value
  have hn := ok.1
  refine ys_out n (by omega) (fun z => br_f (by decide) (h0 (fun ⟨b, v, hb, hv, eb, ev⟩ => z b hb eb))) (fun b hb eb => br_t rfl ?_)
  refine ys_out 6 (by decide) (fun z => br_f (by decide) (h0 (fun ⟨b, v, hb, hv, eb, ev⟩ => z v hv ev))) (fun v hv ev1 => br_t rfl ?_)
  refine yv_sol ok hev rl is hk (fun p yg' nw' yo' hso ag iv => ?_)
  have h1' := fun nw'' => h1 b v hb hv eb ev1 p yg' nw'' yo' hso
  subst eb
  subst ev1
  have c : (nI b).toNatClampNeg = b := nI_clamp (by omega)
  have cv : (nI v).toNatClampNeg = v := nI_clamp (by omega)
  have c6 : (nI (6 * b + v)).toNatClampNeg = 6 * b + v := nI_clamp (by omega)
  unfold fz_va at h1'
  refine ⟨vp_in_nI (by omega) (by omega), ?_⟩
  cases hpb : p.2 b
  · rw [if_neg (by rw [hpb]; decide)] at h1'
    exact br_t (by rw [c]; exact (ag.2 b (by omega)).2 hpb) (h1' nw')
  · rw [if_pos hpb] at h1'
    refine br_f (by rw [c, (ag.2 b (by omega)).1 hpb]; decide) ?_
    by_cases e3 : v3 = 0
    · rw [if_pos e3] at h1'
      refine br_t e3 ⟨by rw [yv_6]; exact vp_in_nI (by omega) (by omega), ?_⟩
      rw [yv_6, c6, ag.1 _ (by omega)]
      exact h1' nw'
    · rw [if_neg e3] at h1'
      refine br_f e3 (yv_go hn is (B := p.1) hb (fun v hv => ag.1 _ (by omega)) ((iv b).1 hpb).2 (fun nw2 hen => ⟨vp_in_nI (by omega) (by omega), ?_⟩))
      rw [cv, hen v hv]
      exact h1' nw2
end
end
section
/-- what one block adds to a count -/
noncomputable def fz_g (n : Nat) (sz kd ev th el op rs fi se : Nat → Int32) (p : (Nat → Int64) × (Nat → Bool)) (w x : Nat) : Nat :=
  if w = 0 then fz_on (fa_pc (fd_M (fe_E n kd th el) (fe_st n)) x) else if w = 1 then fz_on (p.2 x) else if w = 2 then (if fa_pc (fd_M (fe_E n kd th el) (fe_st n)) x = true then (kd x).toNatClampNeg else 0) else fz_wy sz kd ev op rs fi se p x
theorem fz_kn {n : Nat} {kd th el : Nat → Int32} (ok : fe_ok n kd th el) {x : Nat} (hx : x < n) : kd x = nI (kd x).toNatClampNeg := by
  rcases (ok.2 x hx).1 with e | e | e <;> rw [e] <;> rfl
section
variable {n k : Nat} {ym yr yb yl : Int32} {sz kd ev th el op rs fi se us f1 f2 yv nd ru eg yo yw : Nat → Int32} {yg nw : Nat → Int64}
theorem yc_112 (ok : fe_ok n kd th el) {post : Int32 → SY → Prop}
    {J : Int32 → Int32 → Int32 → Int32 → Int32 → Int32 → Int32 → Int32 → (Nat → Int32) → (Nat → Int32) → (Nat → Int32) → (Nat → Int32) → (Nat → Int32) → (Nat → Int32) → (Nat → Int32) → (Nat → Int32) → (Nat → Int32) → (Nat → Int32) → (Nat → Int32) → (Nat → Int32) → (Nat → Int32) → (Nat → Int64) → (Nat → Int64) → (Nat → Int32) → (Nat → Int32) → Prop}
    {p : (Nat → Int64) × (Nat → Bool)} {w x a u : Nat} {z0 : Int32} (hx : x < n) (hw : w < 4) (hyo : (p.2 x = true → yo x = 1) ∧ (p.2 x = false → yo x = 0)) (hz : (z0 = 0 ∧ ¬ fd_M (fe_E n kd th el) (fe_st n) x) ∨ (z0 = 1 ∧ fd_M (fe_E n kd th el) (fe_st n) x))
    (hu : u = fz_wy sz kd ev op rs fi se p x) (hJ : J (nI (a + fz_g n sz kd ev th el op rs fi se p w x)) (nI (x + 1)) (nI n) (nI k) ym yr yb yl sz op rs fi se kd us f1 f2 yv nd ru eg yg nw yo yw) : wY_count_112 post J (nI w) (nI a) (nI x) (kd x) (nI u) z0 (nI n) (nI k) ym yr yb yl sz op rs fi se kd us f1 f2 yv nd ru eg yg nw yo yw := by
  have hn := ok.1
  have c : (nI x).toNatClampNeg = x := nI_clamp (by omega)
  have vi : vp_in (nI x) 16 := vp_in_nI (by omega) (by omega)
  have hw4 : w = 0 ∨ w = 1 ∨ w = 2 ∨ w = 3 := by omega
  unfold fz_g at hJ
  rcases hw4 with e | e | e | e
  · subst e
    rw [if_pos rfl] at hJ
    unfold fz_on at hJ
    refine br_t rfl ?_
    rcases hz with ⟨e0, hM⟩ | ⟨e0, hM⟩
    · rw [if_neg (fun z => hM (fa_pt.mp z))] at hJ
      exact br_t e0 (nm_r (nI_add a 0) (nm_r (nI_1 x) hJ))
    · rw [if_pos (fa_pt.mpr hM)] at hJ
      exact br_f (by rw [e0]; decide) (nm_r (nI_add a 1) (nm_r (nI_1 x) hJ))
  · subst e
    rw [if_neg (by decide), if_pos rfl] at hJ
    unfold fz_on at hJ
    refine br_f (by decide) (br_t rfl ⟨vi, ?_⟩)
    cases hpx : p.2 x
    · rw [if_neg (by rw [hpx]; decide)] at hJ
      exact br_t (by rw [c]; exact hyo.2 hpx) (nm_r (nI_add a 0) (nm_r (nI_1 x) hJ))
    · rw [if_pos hpx] at hJ
      exact br_f (by rw [c, hyo.1 hpx]; decide) (nm_r (nI_add a 1) (nm_r (nI_1 x) hJ))
  · subst e
    rw [if_neg (by decide), if_neg (by decide), if_pos rfl] at hJ
    refine br_f (by decide) (br_f (by decide) (br_t rfl ?_))
    rcases hz with ⟨e0, hM⟩ | ⟨e0, hM⟩
    · rw [if_neg (fun z => hM (fa_pt.mp z))] at hJ
      exact br_t e0 (nm_r (nI_add a 0) (nm_r (nI_1 x) hJ))
    · rw [if_pos (fa_pt.mpr hM)] at hJ
      refine br_f (by rw [e0]; decide) ?_
      intro y ey
      rw [fz_kn ok hx, nI_add] at ey
      subst ey
      exact nm_r (nI_1 x) hJ
  · subst e
    rw [if_neg (by decide), if_neg (by decide), if_neg (by decide), ← hu] at hJ
    exact br_f (by decide) (br_f (by decide) (br_f (by decide) (nm_r (nI_add a u) (nm_r (nI_1 x) hJ))))
theorem yc_94 (ok : fe_ok n kd th el) (hd : ys_dom n kd th el ym ru) {post : Int32 → SY → Prop}
    {J : Int32 → Int32 → Int32 → Int32 → Int32 → Int32 → Int32 → Int32 → (Nat → Int32) → (Nat → Int32) → (Nat → Int32) → (Nat → Int32) → (Nat → Int32) → (Nat → Int32) → (Nat → Int32) → (Nat → Int32) → (Nat → Int32) → (Nat → Int32) → (Nat → Int32) → (Nat → Int32) → (Nat → Int32) → (Nat → Int64) → (Nat → Int64) → (Nat → Int32) → (Nat → Int32) → Prop}
    {p : (Nat → Int64) × (Nat → Bool)} {w x a u : Nat} (hx : x < n) (hw : w < 4) (hyo : (p.2 x = true → yo x = 1) ∧ (p.2 x = false → yo x = 0))
    (hu : u = fz_wy sz kd ev op rs fi se p x) (hJ : J (nI (a + fz_g n sz kd ev th el op rs fi se p w x)) (nI (x + 1)) (nI n) (nI k) ym yr yb yl sz op rs fi se kd us f1 f2 yv nd ru eg yg nw yo yw) : wY_count_94 post J (nI w) (nI a) (nI x) (kd x) (nI u) (nI n) (nI k) ym yr yb yl sz op rs fi se kd us f1 f2 yv nd ru eg yg nw yo yw := by
  have hn := ok.1
  refine ys_has (by omega) (fun z => yc_112 ok hx hw hyo (Or.inl ⟨rfl, fun q => z ((hd.1 x).mpr q)⟩) hu hJ) (fun z => yc_112 ok hx hw hyo (Or.inr ⟨rfl, (hd.1 x).mp z⟩) hu hJ)
theorem yc_52 (ok : fe_ok n kd th el) (hev : fe_ev n kd ev) (rl : fe_rl n kd ev th el us f1 f2) (hd : ys_dom n kd th el ym ru) {post : Int32 → SY → Prop}
    {J : Int32 → Int32 → Int32 → Int32 → Int32 → Int32 → Int32 → Int32 → (Nat → Int32) → (Nat → Int32) → (Nat → Int32) → (Nat → Int32) → (Nat → Int32) → (Nat → Int32) → (Nat → Int32) → (Nat → Int32) → (Nat → Int32) → (Nat → Int32) → (Nat → Int32) → (Nat → Int32) → (Nat → Int32) → (Nat → Int64) → (Nat → Int64) → (Nat → Int32) → (Nat → Int32) → Prop}
    {p : (Nat → Int64) × (Nat → Bool)} {w x a : Nat} (hx : x < n) (hw : w < 4) (hyo : (p.2 x = true → yo x = 1) ∧ (p.2 x = false → yo x = 0)) (hen : p.2 x = true → ∀ v, v < 6 → nw v = fz_en sz op rs fi se p.1 x v)
    (hJ : J (nI (a + fz_g n sz kd ev th el op rs fi se p w x)) (nI (x + 1)) (nI n) (nI k) ym yr yb yl sz op rs fi se kd us f1 f2 yv nd ru eg yg nw yo yw) : wY_count_52 post J (nI w) (nI a) (nI x) (kd x) (nI n) (nI k) ym yr yb yl sz op rs fi se kd us f1 f2 yv nd ru eg yg nw yo yw := by
  have hn := ok.1
  have c : (nI x).toNatClampNeg = x := nI_clamp (by omega)
  have vi : vp_in (nI x) 16 := vp_in_nI (by omega) (by omega)
  cases hpx : p.2 x
  · refine ⟨vi, br_t (by rw [c]; exact hyo.2 hpx) (yc_94 ok hd (u := 0) hx hw hyo ?_ hJ)⟩
    unfold fz_wy
    rw [if_neg (by rw [hpx]; decide)]
  · have hen' := hen hpx
    refine ⟨vi, br_f (by rw [c, hyo.1 hpx]; decide) (yv_ld ok hev rl hx hen' (fun h1 => br_t rfl ?_) (fun h1 => br_f (by decide) ?_))⟩
    · unfold wY_count_79
      refine yv_l2 ok hev rl hx hen' (fun h2 => br_t rfl (yc_94 ok hd (u := 0) hx hw hyo ?_ hJ)) (fun h2 => br_f (by decide) (yc_94 ok hd (u := 1) hx hw hyo ?_ hJ))
      · unfold fz_wy
        rw [if_pos hpx, if_neg h1, if_neg h2]
      · unfold fz_wy
        rw [if_pos hpx, if_neg h1, if_pos h2]
    · unfold wY_count_79
      refine yv_l2 ok hev rl hx hen' (fun h2 => br_t rfl (yc_94 ok hd (u := 1) hx hw hyo ?_ hJ)) (fun h2 => br_f (by decide) (yc_94 ok hd (u := 2) hx hw hyo ?_ hJ))
      · unfold fz_wy
        rw [if_pos hpx, if_pos h1, if_neg h2]
      · unfold fz_wy
        rw [if_pos hpx, if_pos h1, if_pos h2]
theorem yc_cnt (ok : fe_ok n kd th el) (hev : fe_ev n kd ev) (rl : fe_rl n kd ev th el us f1 f2) (is : fe_is n sz op rs fi se) (hk : k ≤ 3) {post : Int32 → SY → Prop} {v1 : Int32}
    (h0 : (∀ j, j < 4 → ¬ v1 = nI j) → post (-1) ((nI n), (nI k), ym, yr, yb, yl, sz, op, rs, fi, se, kd, us, f1, f2, yv, nd, ru, eg, yg, nw, yo, yw))
    (h1 : ∀ w, w < 4 → v1 = nI w → ∀ p yg' nw' yo' ym' ru', fz_so sz kd ev th el op rs fi se n (fz_p0 n k) p → post (nI (fz_sm (fz_g n sz kd ev th el op rs fi se p w) n)) ((nI n), (nI k), ym', yr, yb, yl, sz, op, rs, fi, se, kd, us, f1, f2, yv, nd, ru', eg, yg', nw', yo', yw)) : wpY_count post ((nI n), (nI k), ym, yr, yb, yl, sz, op, rs, fi, se, kd, us, f1, f2, yv, nd, ru, eg, yg, nw, yo, yw) v1 := by
  unfold wpY_count
  have hn := ok.1
  refine ys_out 4 (by decide) (fun z => br_f (by decide) (h0 z)) (fun w hw ew => br_t rfl ?_)
  refine yv_sol ok hev rl is hk (fun p yg' nw' yo' hso ag iv => ?_)
  refine ys_lok ok rl (fun ym' ru' hd => ?_)
  subst ew
  have L : ∀ m x nw2, x ≤ n → n - x < m → wY_count_22 post (nI w) m (nI (fz_sm (fz_g n sz kd ev th el op rs fi se p w) x)) (nI x) (nI n) (nI k) ym' yr yb yl sz op rs fi se kd us f1 f2 yv nd ru' eg yg' nw2 yo' yw := by
    intro m
    induction m with
    | zero => intro x nw2 _ h; omega
    | succ m ih =>
      intro x nw2 hx hm
      by_cases e : x = n
      · have e' := e.symm
        subst e'
        exact br_t (Int32.le_refl _) (h1 w hw rfl p yg' nw2 yo' ym' ru' hso)
      · have hxn : x < n := by omega
        have c : (nI x).toNatClampNeg = x := nI_clamp (by omega)
        have vi : vp_in (nI x) 16 := vp_in_nI (by omega) (by omega)
        refine br_f (nI_ge hxn (by omega)) ⟨vi, ?_⟩
        intro y ey
        rw [c] at ey
        subst ey
        refine ⟨vi, ?_⟩
        cases hpx : p.2 x
        · refine br_t (by rw [c]; exact (ag.2 x (by omega)).2 hpx) (yc_52 ok hev rl hd hxn hw (ag.2 x (by omega)) (fun z => ?_) (ih (x + 1) nw2 (by omega) (by omega)))
          rw [hpx] at z
          exact absurd z (by decide)
        · refine br_f (by rw [c, (ag.2 x (by omega)).1 hpx]; decide) (yv_go hn is (B := p.1) hxn (fun v hv => ag.1 _ (by omega)) ((iv x).1 hpx).2 (fun nw3 hen => ?_))
          exact yc_52 ok hev rl hd hxn hw (ag.2 x (by omega)) (fun _ => hen) (ih (x + 1) nw3 (by omega) (by omega))
  exact ⟨n + 1, L (n + 1) 0 nw' (by omega) (by omega)⟩
end
end
section
/-- the variables as a run begins -/
def fv_s0 (k : Nat) (a b c : Int32) (v : Nat) : Int32 := if k ≤ v then 0 else if v = 0 then a else if v = 1 then b else c
theorem fv_nxl {n : Nat} {kd ev th el : Nat → Int32} (ok : fe_ok n kd th el) {x : Nat} (hx : x < n) (k0 : ¬ kd x = 0) (vs : Nat → Int32) : fv_nx kd ev th el x vs < n := by
  unfold fv_nx
  split
  · next h => exact (fz_tgo ok).2 x hx |>.2 h.1
  · exact (fz_tgo ok).2 x hx |>.1 k0
section
variable {n k : Nat} {me ob ot oe it lr lb la : Int32} {sz kd ev th el op rs fi se dm fr lv va : Nat → Int32} {bg en : Nat → Int64}
theorem xr_rv {post : Int32 → Prop} {q : Nat} {vs : Nat → Int32} {kk A C : Int32} (hq : q < 64) (h : fe_i1 op rs fi se q) (h7 : ¬ op q = 7) (hw : ∀ v, v < 6 → va v = vs v) (hp : post (fv_v (op q) (fi q) (se q) vs kk A C)) : wpX_ranValue post ((nI n), (nI k), me, ob, ot, oe, it, lr, lb, la, sz, kd, ev, th, el, op, rs, fi, se, dm, fr, lv, bg, en, va) (nI q) := by
  obtain ⟨⟨o, ho, eo, ha, hc⟩, _⟩ := h
  have c : (nI q).toNatClampNeg = q := nI_clamp (by omega)
  have vi : vp_in (nI q) 64 := vp_in_nI hq (by omega)
  unfold fv_v at hp
  rw [if_neg h7, eo] at hp
  rw [eo] at h7
  have o7 : ¬ o = 7 := fun z => h7 (by rw [z]; rfl)
  refine ⟨vi, ?_⟩
  intro y ey
  rw [c, eo] at ey
  subst ey
  by_cases o0 : o = 0
  · subst o0
    rw [if_pos (by decide)] at hp
    refine br_t (by decide) ⟨vi, ?_⟩
    rw [c]
    exact hp
  have n0 : ¬ nI o = 0 := fun z => o0 ((nI_eq (b := 0) (by omega) (by decide)).mp z)
  rw [if_neg n0] at hp
  obtain ⟨wa, hwa, ea⟩ := ha (by omega) (by omega)
  have ca : (nI wa).toNatClampNeg = wa := nI_clamp (by omega)
  rw [ea, ca] at hp
  refine br_f n0 ⟨vi, by rw [c, ea]; exact vp_in_nI (by omega) (by omega), ?_⟩
  intro x ex
  rw [c, ea, ca, hw wa hwa] at ex
  subst ex
  by_cases o1 : o = 1
  · subst o1
    rw [if_pos (by decide)] at hp
    exact br_t (by decide) hp
  have n1 : ¬ nI o = 1 := fun z => o1 ((nI_eq (b := 1) (by omega) (by decide)).mp z)
  rw [if_neg n1] at hp
  obtain ⟨wb, hwb, eb⟩ := hc (by omega) (by omega)
  have cb : (nI wb).toNatClampNeg = wb := nI_clamp (by omega)
  rw [eb, cb] at hp
  refine br_f n1 ⟨vi, by rw [c, eb]; exact vp_in_nI (by omega) (by omega), ?_⟩
  intro y ey
  rw [c, eb, cb, hw wb hwb] at ey
  subst ey
  exact xv_wo (by omega) (by omega) hp
theorem xr_ri (hn : n ≤ 16) (is : fe_is n sz op rs fi se) {post : SX → Prop} {x : Nat} {s : (Nat → Int32) × Int32} {A C : Int32} (hx : x < n) (hw : ∀ v, v < 6 → va v = s.1 v) (ht : it = s.2)
    (hp : ∀ va' it', (∀ v, v < 6 → va' v = (fv_bl sz op rs fi se A C x s).1 v) → it' = (fv_bl sz op rs fi se A C x s).2 → post ((nI n), (nI k), me, ob, ot, oe, it', lr, lb, la, sz, kd, ev, th, el, op, rs, fi, se, dm, fr, lv, bg, en, va')) : wpX_runInstructions post ((nI n), (nI k), me, ob, ot, oe, it, lr, lb, la, sz, kd, ev, th, el, op, rs, fi, se, dm, fr, lv, bg, en, va) (nI x) A C := by
  obtain ⟨l, hl, es, cs, hin⟩ := fe_ix is hx
  have c : (nI x).toNatClampNeg = x := nI_clamp (by omega)
  have vi : vp_in (nI x) 16 := vp_in_nI (by omega) (by omega)
  unfold fv_bl at hp
  rw [cs] at hp
  have L : ∀ m i va' it', i ≤ l → l - i < m → (∀ v, v < 6 → va' v = (fv_th op rs fi se A C (4 * x) s i).1 v) → it' = (fv_th op rs fi se A C (4 * x) s i).2 →
      wX_runInstructions_3 post (nI x) A C (nI n) (nI k) me ob ot oe lr lb la m (nI i) it' sz kd ev th el op rs fi se dm fr lv bg en va' := by
    intro m
    induction m with
    | zero => intro i va' it' _ h; omega
    | succ m ih =>
      intro i va' it' hi hm h1 h2
      by_cases e : i = l
      · subst e
        exact ⟨vi, br_t (by rw [c, es]; exact Int32.le_refl _) (hp va' it' h1 h2)⟩
      · obtain ⟨hcl, v, hv, ev2⟩ := hin i (by omega)
        clear hcl
        have c4 : (nI (4 * x + i)).toNatClampNeg = 4 * x + i := nI_clamp (by omega)
        have v4 : vp_in (nI (4 * x + i)) 64 := vp_in_nI (by omega) (by omega)
        have e1 : (fv_th op rs fi se A C (4 * x) s (i + 1)).1 = upd (fv_th op rs fi se A C (4 * x) s i).1 v (fv_v (op (4 * x + i)) (fi (4 * x + i)) (se (4 * x + i)) (fv_th op rs fi se A C (4 * x) s i).1 (fv_th op rs fi se A C (4 * x) s i).2 A C) := by
          show upd _ (rs (4 * x + i)).toNatClampNeg _ = _
          rw [ev2, nI_clamp (by omega)]
        have e2 : (fv_th op rs fi se A C (4 * x) s (i + 1)).2 = if op (4 * x + i) = 7 then (fv_th op rs fi se A C (4 * x) s i).2 + 1 else (fv_th op rs fi se A C (4 * x) s i).2 := rfl
        have nx : ∀ w it2, w = fv_v (op (4 * x + i)) (fi (4 * x + i)) (se (4 * x + i)) (fv_th op rs fi se A C (4 * x) s i).1 (fv_th op rs fi se A C (4 * x) s i).2 A C → it2 = (fv_th op rs fi se A C (4 * x) s (i + 1)).2 → ∀ y, y = upd va' v w →
            wX_runInstructions_3 post (nI x) A C (nI n) (nI k) me ob ot oe lr lb la m (nI (i + 1)) it2 sz kd ev th el op rs fi se dm fr lv bg en y := by
          intro w it2 hw2 hi2 y ey
          subst ey
          refine ih (i + 1) _ it2 (by omega) (by omega) (fun u hu => ?_) hi2
          rw [e1]
          by_cases eu : u = v
          · rw [eu, pk_us, pk_us]; exact hw2
          · rw [pk_un eu, pk_un eu]; exact h1 u hu
        refine ⟨vi, br_f (by rw [c, es]; exact nI_ge (by omega) (by omega)) ?_⟩
        intro y ey
        rw [xs_ix] at ey
        subst ey
        refine ⟨v4, ?_⟩
        intro y ey
        rw [c4, ev2] at ey
        subst ey
        have cv : (nI v).toNatClampNeg = v := nI_clamp (by omega)
        have vv : vp_in (nI v) 6 := vp_in_nI (by omega) (by omega)
        refine ⟨v4, ?_⟩
        by_cases o7 : op (4 * x + i) = 7
        · rw [if_pos o7] at e2
          refine br_t (by rw [c4]; exact o7) ⟨vv, ?_⟩
          intro y ey
          rw [cv] at ey
          refine nm_e (nm_r (nI_1 i) (nx _ _ ?_ ?_ y ey))
          · unfold fv_v
            rw [if_pos o7, h2]
          · rw [e2, h2]
        · rw [if_neg o7] at e2
          refine br_f (by rw [c4]; exact o7) (xr_rv (by omega) (hin i (by omega)) o7 h1 (kk := (fv_th op rs fi se A C (4 * x) s i).2) (A := A) (C := C) ⟨vv, ?_⟩)
          intro y ey
          rw [cv] at ey
          refine nm_r (nI_1 i) (nx _ _ rfl ?_ y ey)
          rw [e2, h2]
  exact ⟨l + 1, L (l + 1) 0 va it (by omega) (by omega) hw ht⟩
theorem xr_ba (ok : fe_ok n kd th el) (hev : fe_ev n kd ev) {post : Int32 → Prop} {x : Nat} {vs : Nat → Int32} (hx : x < n) (k0 : ¬ kd x = 0) (hw : ∀ v, v < 6 → va v = vs v) (hp : post (nI (fv_nx kd ev th el x vs))) : wpX_blockAfter post ((nI n), (nI k), me, ob, ot, oe, it, lr, lb, la, sz, kd, ev, th, el, op, rs, fi, se, dm, fr, lv, bg, en, va) (nI x) := by
  have hn := ok.1
  have c : (nI x).toNatClampNeg = x := nI_clamp (by omega)
  have vi : vp_in (nI x) 16 := vp_in_nI (by omega) (by omega)
  unfold fv_nx at hp
  refine fe_cs ok hx (fun k => absurd k k0) (fun t k1 _ ht e1 => ?_) (fun t t' k2 _ ht e1 _ ht' e2 => ?_)
  · rw [if_neg (fun z => by rw [k1] at z; exact absurd z.1 (by decide)), e1, nI_clamp (by omega)] at hp
    refine ⟨vi, br_f (by rw [c, k1]; decide) (br_t rfl ⟨vi, ?_⟩)⟩
    rw [c, e1]
    exact hp
  · obtain ⟨v, hv, e3⟩ := hev x hx (by rw [k2]; decide)
    have cv : (nI v).toNatClampNeg = v := nI_clamp (by omega)
    rw [e3, cv, e1, e2, nI_clamp (by omega), nI_clamp (by omega)] at hp
    refine ⟨vi, br_t (by rw [c]; exact k2) ⟨vi, by rw [c, e3]; exact vp_in_nI (by omega) (by omega), ?_⟩⟩
    by_cases z : vs v = 0
    · rw [if_pos ⟨k2, z⟩] at hp
      refine br_t (by rw [c, e3, cv, hw v hv]; exact z) (br_f (by decide) ⟨vi, ?_⟩)
      rw [c, e2]
      exact hp
    · rw [if_neg (fun q => z q.2)] at hp
      refine br_f (by rw [c, e3, cv, hw v hv]; exact z) (br_t rfl ⟨vi, ?_⟩)
      rw [c, e1]
      exact hp
theorem xr_sv (hk : k ≤ 3) {post : SX → Prop} {a b c : Int32} (hp : ∀ va', (∀ v, v < 6 → va' v = fv_s0 k a b c v) → post ((nI n), (nI k), me, ob, ot, oe, it, lr, lb, la, sz, kd, ev, th, el, op, rs, fi, se, dm, fr, lv, bg, en, va')) : wpX_startVariables post ((nI n), (nI k), me, ob, ot, oe, it, lr, lb, la, sz, kd, ev, th, el, op, rs, fi, se, dm, fr, lv, bg, en, va) a b c := by
  have L : ∀ va0 : Nat → Int32, va0 0 = (if k ≤ 0 then 0 else a) → va0 1 = (if k ≤ 1 then 0 else b) → va0 2 = (if k ≤ 2 then 0 else c) →
      ∀ m v va', 3 ≤ v → v ≤ 6 → 6 - v < m → (∀ w, w < 3 → va' w = va0 w) → (∀ w, 3 ≤ w → w < v → va' w = 0) → wX_startVariables_59 post (nI n) (nI k) me ob ot oe it lr lb la m (nI v) sz kd ev th el op rs fi se dm fr lv bg en va' := by
    intro va0 g0 g1 g2 m
    induction m with
    | zero => intro v va' _ _ h; omega
    | succ m ih =>
      intro v va' hv3 hv hm h1 h2
      by_cases e : v = 6
      · subst e
        refine br_t (by decide) (hp va' (fun w hw => ?_))
        unfold fv_s0
        by_cases w3 : w < 3
        · rw [h1 w w3]
          have hw3 : w = 0 ∨ w = 1 ∨ w = 2 := by omega
          rcases hw3 with e | e | e
          · subst e
            rw [g0, if_pos rfl]
          · subst e
            exact g1
          · subst e
            exact g2
        · rw [h2 w (by omega) hw, if_pos (by omega)]
      · have cv : (nI v).toNatClampNeg = v := nI_clamp (by omega)
        refine br_f (nI_ge (b := 6) (by omega) (by decide)) ⟨vp_in_nI (by omega) (by omega), ?_⟩
        intro y ey
        rw [cv] at ey
        subst ey
        refine nm_r (nI_1 v) (ih (v + 1) _ (by omega) (by omega) (by omega) (fun w hw => ?_) (fun w hw hw2 => ?_))
        · rw [pk_un (by omega)]; exact h1 w hw
        · by_cases ew : w = v
          · rw [ew, pk_us]
          · rw [pk_un ew]; exact h2 w hw (by omega)
  have M : ∀ va0 : Nat → Int32, va0 0 = (if k ≤ 0 then 0 else a) → va0 1 = (if k ≤ 1 then 0 else b) → va0 2 = (if k ≤ 2 then 0 else c) → ∃ m, wX_startVariables_59 post (nI n) (nI k) me ob ot oe it lr lb la m 3 sz kd ev th el op rs fi se dm fr lv bg en va0 :=
    fun va0 g0 g1 g2 => ⟨4, L va0 g0 g1 g2 4 3 va0 (by omega) (by omega) (by omega) (fun _ _ => rfl) (fun w hw hw2 => by omega)⟩
  have v0 : vp_in 0 6 := vp_in_iff.mpr (by decide)
  have v1 : vp_in 1 6 := vp_in_iff.mpr (by decide)
  have c0 : (0 : Int32).toNatClampNeg = 0 := by decide
  have c1 : (1 : Int32).toNatClampNeg = 1 := by decide
  have y36 : ∀ (va0 : Nat → Int32) (w1 : Int32), va0 0 = (if k ≤ 0 then 0 else a) → w1 = (if k ≤ 1 then 0 else b) → wX_startVariables_36 post c w1 1 (nI n) (nI k) me ob ot oe it lr lb la sz kd ev th el op rs fi se dm fr lv bg en va0 := by
    intro va0 w1 g0 g1
    refine ⟨v1, ?_⟩
    intro y ey
    rw [c1] at ey
    subst ey
    by_cases q : k ≤ 2
    · refine br_t (nI_le (b := 2) q (by decide)) (nm_e (M _ ?_ ?_ ?_))
      · rw [pk_un (by decide), pk_un (by decide)]; exact g0
      · rw [pk_un (by decide), pk_us]; exact g1
      · rw [pk_us, if_pos q]
    · refine br_f (nI_ge (a := 2) (by omega) (by omega)) (nm_e (M _ ?_ ?_ ?_))
      · rw [pk_un (by decide), pk_un (by decide)]; exact g0
      · rw [pk_un (by decide), pk_us]; exact g1
      · rw [pk_us, if_neg q]
  have y17 : ∀ w0 : Int32, w0 = (if k ≤ 0 then 0 else a) → wX_startVariables_17 post b c w0 0 (nI n) (nI k) me ob ot oe it lr lb la sz kd ev th el op rs fi se dm fr lv bg en va := by
    intro w0 g0
    refine ⟨v0, ?_⟩
    intro y ey
    rw [c0] at ey
    subst ey
    by_cases q : k ≤ 1
    · exact br_t (nI_le (b := 1) q (by decide)) (y36 _ 0 (by rw [pk_us]; exact g0) (by rw [if_pos q]))
    · exact br_f (nI_ge (a := 1) (by omega) (by omega)) (y36 _ b (by rw [pk_us]; exact g0) (by rw [if_neg q]))
  by_cases q : k ≤ 0
  · exact br_t (nI_le (b := 0) q (by decide)) (y17 0 (by rw [if_pos q]))
  · exact br_f (nI_ge (a := 0) (by omega) (by omega)) (y17 a (by rw [if_neg q]))
end
section
variable {n k : Nat} {me ob ot oe it lr lb la : Int32} {sz kd ev th el op rs fi se dm fr lv va : Nat → Int32} {bg en : Nat → Int64} {A C : Int32} {R : Nat × ((Nat → Int32) × Int32) × Nat}
theorem xr_75 (ok : fe_ok n kd th el) (hev : fe_ev n kd ev) {post : Int32 → SX → Prop} {x g : Nat} {s : (Nat → Int32) × Int32} (hx : x < n) (hw : ∀ v, v < 6 → va v = s.1 v) (hR : R = (x, s, g))
    (hp : ∀ va' it', post (if kd R.1 = 0 then 0 else 1) ((nI n), (nI k), me, ob, ot, oe, it', (if kd R.1 = 0 then R.2.1.1 (ev R.1).toNatClampNeg else 0), (nI (200 - R.2.2)), (nI R.1), sz, kd, ev, th, el, op, rs, fi, se, dm, fr, lv, bg, en, va')) : wX_run_75 post (nI x) (nI (200 - g)) (nI n) (nI k) me ob ot oe it lr lb la sz kd ev th el op rs fi se dm fr lv bg en va := by
  have hn := ok.1
  have c : (nI x).toNatClampNeg = x := nI_clamp (by omega)
  have vi : vp_in (nI x) 16 := vp_in_nI (by omega) (by omega)
  subst hR
  dsimp only at hp
  by_cases k0 : kd x = 0
  · rw [if_pos k0, if_pos k0] at hp
    obtain ⟨v, hv, e3⟩ := hev x hx (by rw [k0]; decide)
    have cv : (nI v).toNatClampNeg = v := nI_clamp (by omega)
    rw [e3, cv] at hp
    refine ⟨vi, br_t (by rw [c]; exact k0) (br_f (by decide) ⟨vi, by rw [c, e3]; exact vp_in_nI (by omega) (by omega), br_f (by decide) ?_⟩)⟩
    rw [c, e3, cv, hw v hv]
    exact hp va it
  · rw [if_neg k0, if_neg k0] at hp
    exact ⟨vi, br_f (by rw [c]; exact k0) (br_t rfl (br_t rfl (hp va it)))⟩
theorem xr_run (ok : fe_ok n kd th el) (hev : fe_ev n kd ev) (is : fe_is n sz op rs fi se) (hk : k ≤ 3) {post : Int32 → SX → Prop} {a b c : Int32} (h0 : n = 0 → post (-1) ((nI n), (nI k), me, ob, ot, oe, it, lr, lb, la, sz, kd, ev, th, el, op, rs, fi, se, dm, fr, lv, bg, en, va))
    (hR : R = fv_go sz kd ev th el op rs fi se a b 199 0 (fv_bl sz op rs fi se a b 0 (fv_s0 k a b c, 0)))
    (hp : 0 < n → ∀ va' it', post (if kd R.1 = 0 then 0 else 1) ((nI n), (nI k), me, ob, ot, oe, it', (if kd R.1 = 0 then R.2.1.1 (ev R.1).toNatClampNeg else 0), (nI (200 - R.2.2)), (nI R.1), sz, kd, ev, th, el, op, rs, fi, se, dm, fr, lv, bg, en, va')) : wpX_run post ((nI n), (nI k), me, ob, ot, oe, it, lr, lb, la, sz, kd, ev, th, el, op, rs, fi, se, dm, fr, lv, bg, en, va) a b c := by
  have hn := ok.1
  have L : ∀ m g x s va' it' lr' lb' la', g ≤ 199 → g < m → x < n → (∀ v, v < 6 → va' v = s.1 v) → it' = s.2 → R = fv_go sz kd ev th el op rs fi se a b g x s →
      wX_run_35 post a b m (nI x) (nI (200 - g)) (nI n) (nI k) me ob ot oe it' lr' lb' la' sz kd ev th el op rs fi se dm fr lv bg en va' := by
    intro m
    induction m with
    | zero => intro g x s va' it' lr' lb' la' _ h; omega
    | succ m ih =>
      intro g x s va' it' lr' lb' la' hg hm hx h1 h2 h3
      have c : (nI x).toNatClampNeg = x := nI_clamp (by omega)
      have vi : vp_in (nI x) 16 := vp_in_nI (by omega) (by omega)
      by_cases k0 : kd x = 0
      · refine ⟨vi, br_t (by rw [c]; exact k0) (xr_75 ok hev (R := R) hx h1 ?_ (hp (by omega)))⟩
        rw [h3]
        cases g with
        | zero => rfl
        | succ g => exact if_pos k0
      · refine ⟨vi, br_f (by rw [c]; exact k0) ?_⟩
        cases g with
        | zero => exact br_t (by decide) (xr_75 ok hev (R := R) hx h1 h3 (hp (by omega)))
        | succ g =>
          have e3 : fv_go sz kd ev th el op rs fi se a b (g + 1) x s = fv_go sz kd ev th el op rs fi se a b g (fv_nx kd ev th el x s.1) (fv_bl sz op rs fi se a b (fv_nx kd ev th el x s.1) s) := if_neg k0
          rw [e3] at h3
          have hl := fv_nxl (ev := ev) ok hx k0 s.1
          refine br_f (nI_ge (b := 200) (by omega) (by decide)) (xr_ba ok hev hx k0 h1 ?_)
          intro y ey
          rw [nI_1] at ey
          subst ey
          refine xr_ri hn is (s := s) hl h1 h2 (fun va2 it2 g1 g2 => ?_)
          have e4 : 200 - (g + 1) + 1 = 200 - g := by omega
          rw [e4]
          exact ih g _ _ va2 it2 lr' lb' la' (by omega) (by omega) hl g1 g2 h3
  by_cases e : n = 0
  · exact br_t (by rw [e]; rfl) (h0 e)
  · refine br_f (nI_ne0 (by omega) (by omega)) ?_
    refine xr_sv hk (fun va1 hva1 => ?_)
    refine xr_ri (x := 0) hn is (s := (fv_s0 k a b c, 0)) (by omega) hva1 rfl (fun va2 it2 g1 g2 => ?_)
    exact ⟨200, L 200 199 0 _ va2 it2 lr lb la (by omega) (by omega) (by omega) g1 g2 hR⟩
end
end
section
section
variable {n k : Nat} {ym yr yb yl : Int32} {sz kd ev th el op rs fi se us f1 f2 yv nd ru eg yo yw : Nat → Int32} {yg nw : Nat → Int64} {A C : Int32} {R : Nat × ((Nat → Int32) × Int32) × Nat}
theorem yr_274 {post : Int32 → SY → Prop}
    {J81 : Int32 → Int32 → Int32 → Int32 → Int32 → (Nat → Int32) → (Nat → Int32) → (Nat → Int32) → (Nat → Int32) → (Nat → Int32) → (Nat → Int32) → (Nat → Int32) → (Nat → Int32) → (Nat → Int32) → (Nat → Int32) → (Nat → Int32) → (Nat → Int32) → (Nat → Int32) → (Nat → Int64) → (Nat → Int64) → (Nat → Int32) → (Nat → Int32) → Prop}
    {J118 : Int32 → Int32 → (Nat → Int32) → (Nat → Int32) → (Nat → Int32) → (Nat → Int32) → (Nat → Int32) → (Nat → Int32) → (Nat → Int32) → (Nat → Int32) → (Nat → Int32) → (Nat → Int32) → (Nat → Int32) → (Nat → Int32) → (Nat → Int32) → (Nat → Int64) → (Nat → Int64) → (Nat → Int32) → (Nat → Int32) → Prop}
    {x4 x5 z0 : Int32} {q v : Nat} (hq : q < 64) (hv : v < 6) (ev2 : rs q = nI v) (hJ : J118 x4 (nI (q + 1)) sz op rs fi se kd us f1 f2 yv nd ru eg yg nw yo (upd yw v z0)) : wY_run_274 post J81 J118 A C x4 x5 (nI q) z0 (nI n) (nI k) ym yr yb yl sz op rs fi se kd us f1 f2 yv nd ru eg yg nw yo yw := by
  have c : (nI q).toNatClampNeg = q := nI_clamp (by omega)
  refine ⟨vp_in_nI hq (by omega), by rw [c, ev2]; exact vp_in_nI (by omega) (by omega), ?_⟩
  intro y ey
  rw [c, ev2, nI_clamp (by omega)] at ey
  subst ey
  exact nm_r (nI_1 q) hJ
theorem yr_118 (ok : fe_ok n kd th el) (hev : fe_ev n kd ev) (rl : fe_rl n kd ev th el us f1 f2) (is : fe_is n sz op rs fi se) {post : Int32 → SY → Prop}
    {J81 : Int32 → Int32 → Int32 → Int32 → Int32 → (Nat → Int32) → (Nat → Int32) → (Nat → Int32) → (Nat → Int32) → (Nat → Int32) → (Nat → Int32) → (Nat → Int32) → (Nat → Int32) → (Nat → Int32) → (Nat → Int32) → (Nat → Int32) → (Nat → Int32) → (Nat → Int32) → (Nat → Int64) → (Nat → Int64) → (Nat → Int32) → (Nat → Int32) → Prop}
    {x : Nat} {s : (Nat → Int32) × Int32} (hx : x < n) (hw : ∀ v, v < 6 → yw v = s.1 v)
    (h0 : kd x = 0 → ∀ yw', J81 (fv_bl sz op rs fi se A C x s).2 (-1) ((fv_bl sz op rs fi se A C x s).1 (ev x).toNatClampNeg) yb yl sz op rs fi se kd us f1 f2 yv nd ru eg yg nw yo yw')
    (h1 : ¬ kd x = 0 → ∀ yw', (∀ v, v < 6 → yw' v = (fv_bl sz op rs fi se A C x s).1 v) → J81 (fv_bl sz op rs fi se A C x s).2 (nI (fv_nx kd ev th el x (fv_bl sz op rs fi se A C x s).1)) yr yb yl sz op rs fi se kd us f1 f2 yv nd ru eg yg nw yo yw') :
    ∃ m, wY_run_118 post J81 A C (nI x) (nI n) (nI k) ym yr yb yl m s.2 (nI (4 * x)) sz op rs fi se kd us f1 f2 yv nd ru eg yg nw yo yw := by
  have hn := ok.1
  obtain ⟨l, hl, es, cs, hin⟩ := fe_ix is hx
  have c : (nI x).toNatClampNeg = x := nI_clamp (by omega)
  have vi : vp_in (nI x) 16 := vp_in_nI (by omega) (by omega)
  unfold fv_bl at h0 h1
  rw [cs] at h0 h1
  have e5 : ((4 : Int32) * nI x) + sz (nI x).toNatClampNeg = nI (4 * x + l) := by rw [ys_4, c, es, nI_add]
  have L : ∀ m i yw' it', i ≤ l → l - i < m → (∀ v, v < 6 → yw' v = (fv_th op rs fi se A C (4 * x) s i).1 v) → it' = (fv_th op rs fi se A C (4 * x) s i).2 →
      wY_run_118 post J81 A C (nI x) (nI n) (nI k) ym yr yb yl m it' (nI (4 * x + i)) sz op rs fi se kd us f1 f2 yv nd ru eg yg nw yo yw' := by
    intro m
    induction m with
    | zero => intro i yw' it' _ h; omega
    | succ m ih =>
      intro i yw' it' hi hm g1 g2
      by_cases e : i = l
      · subst e
        subst g2
        refine ⟨vi, br_t (by rw [e5]; exact Int32.le_refl _) ⟨vi, ?_⟩⟩
        unfold fv_nx at h1
        refine fe_cs ok hx (fun k0 => ?_) (fun t k1 _ ht e1 => ?_) (fun t t' k2 _ ht e1 _ ht' e2 => ?_)
        · obtain ⟨v, hv, e3⟩ := hev x hx (by rw [k0]; decide)
          have eu : us x = nI v := ((rl x hx).2.1 (by rw [k0]; decide)).trans e3
          have cv : (nI v).toNatClampNeg = v := nI_clamp (by omega)
          have h0' := h0 k0 yw'
          rw [e3, cv] at h0'
          refine br_t (by rw [c]; exact k0) ⟨vi, by rw [c, eu]; exact vp_in_nI (by omega) (by omega), ?_⟩
          intro y ey
          rw [c, eu, cv, g1 v hv] at ey
          subst ey
          exact h0'
        · have h1' := h1 (by rw [k1]; decide) yw' g1
          rw [if_neg (fun z => by rw [k1] at z; exact absurd z.1 (by decide)), e1, nI_clamp (by omega)] at h1'
          have ef : f1 x = nI t := ((rl x hx).2.2.1 (by rw [k1]; decide)).trans e1
          refine br_f (by rw [c, k1]; decide) ⟨vi, br_t (by rw [c]; exact k1) ⟨vi, ?_⟩⟩
          intro y ey
          rw [c, ef] at ey
          subst ey
          exact h1'
        · obtain ⟨v, hv, e3⟩ := hev x hx (by rw [k2]; decide)
          have eu : us x = nI v := ((rl x hx).2.1 (by rw [k2]; decide)).trans e3
          have cv : (nI v).toNatClampNeg = v := nI_clamp (by omega)
          have h1' := h1 (by rw [k2]; decide) yw' g1
          have ef : f1 x = nI t := ((rl x hx).2.2.1 (by rw [k2]; decide)).trans e1
          have eg2 : f2 x = nI t' := ((rl x hx).2.2.2 k2).trans e2
          rw [e3, cv, e1, e2, nI_clamp (by omega), nI_clamp (by omega)] at h1'
          refine br_f (by rw [c, k2]; decide) ⟨vi, br_f (by rw [c, k2]; decide) ⟨vi, by rw [c, eu]; exact vp_in_nI (by omega) (by omega), ?_⟩⟩
          by_cases z : (fv_th op rs fi se A C (4 * x) s i).1 v = 0
          · rw [if_pos ⟨k2, z⟩] at h1'
            refine br_t (by rw [c, eu, cv, g1 v hv]; exact z) ⟨vi, ?_⟩
            intro y ey
            rw [c, eg2] at ey
            subst ey
            exact h1'
          · rw [if_neg (fun w => z w.2)] at h1'
            refine br_f (by rw [c, eu, cv, g1 v hv]; exact z) ⟨vi, ?_⟩
            intro y ey
            rw [c, ef] at ey
            subst ey
            exact h1'
      · obtain ⟨⟨o, ho, eo, ha, hc⟩, v, hv, ev2⟩ := hin i (by omega)
        have hil : i < l := by clear ha hc; omega
        have hq : 4 * x + i < 64 := by clear ha hc; omega
        have hm2 : l - (i + 1) < m := by clear ha hc; omega
        have c4 : (nI (4 * x + i)).toNatClampNeg = 4 * x + i := nI_clamp (by omega)
        have v4 : vp_in (nI (4 * x + i)) 64 := vp_in_nI (by omega) (by omega)
        have e1 : (fv_th op rs fi se A C (4 * x) s (i + 1)).1 = upd (fv_th op rs fi se A C (4 * x) s i).1 v (fv_v (op (4 * x + i)) (fi (4 * x + i)) (se (4 * x + i)) (fv_th op rs fi se A C (4 * x) s i).1 (fv_th op rs fi se A C (4 * x) s i).2 A C) := by
          show upd _ (rs (4 * x + i)).toNatClampNeg _ = _
          rw [ev2, nI_clamp (by omega)]
        have e2 : (fv_th op rs fi se A C (4 * x) s (i + 1)).2 = if op (4 * x + i) = 7 then (fv_th op rs fi se A C (4 * x) s i).2 + 1 else (fv_th op rs fi se A C (4 * x) s i).2 := rfl
        have nx : ∀ w it2, w = fv_v (op (4 * x + i)) (fi (4 * x + i)) (se (4 * x + i)) (fv_th op rs fi se A C (4 * x) s i).1 (fv_th op rs fi se A C (4 * x) s i).2 A C → it2 = (fv_th op rs fi se A C (4 * x) s (i + 1)).2 →
            wY_run_274 post J81 (wY_run_118 post J81 A C (nI x) (nI n) (nI k) ym yr yb yl m) A C it2 (nI x) (nI (4 * x + i)) w (nI n) (nI k) ym yr yb yl sz op rs fi se kd us f1 f2 yv nd ru eg yg nw yo yw' := by
          intro w it2 hw2 hi2
          refine yr_274 hq hv ev2 (ih (i + 1) _ it2 hil hm2 (fun u hu => ?_) hi2)
          rw [e1]
          by_cases eu : u = v
          · rw [eu, pk_us, pk_us]; exact hw2
          · rw [pk_un eu, pk_un eu]; exact g1 u hu
        unfold fv_v at nx
        rw [eo] at nx e2
        have n0 : ¬ o = 0 → ¬ nI o = 0 := fun o0 z => o0 ((nI_eq (b := 0) (by omega) (by decide)).mp z)
        have n1 : ¬ o = 1 → ¬ nI o = 1 := fun o1 z => o1 ((nI_eq (b := 1) (by omega) (by decide)).mp z)
        have n7 : ¬ o = 7 → ¬ nI o = 7 := fun o7 z => o7 ((nI_eq (b := 7) (by omega) (by decide)).mp z)
        refine ⟨vi, br_f (by rw [e5]; exact nI_ge (by omega) (by omega)) ⟨v4, ?_⟩⟩
        by_cases o0 : o = 0
        · have z0 : nI o = 0 := by rw [o0]; rfl
          have z7 : ¬ nI o = 7 := n7 (by omega)
          rw [if_neg z7] at e2
          refine br_t (by rw [c4, eo]; exact z0) ⟨v4, br_t (by rw [c4, eo, o0]; decide) ⟨v4, br_t (by rw [c4, eo]; exact z0) ⟨v4, ?_⟩⟩⟩
          rw [c4]
          refine nx _ _ ?_ (by rw [e2, g2])
          rw [if_neg z7, if_pos z0]
        · refine br_f (by rw [c4, eo]; exact n0 o0) ⟨v4, ?_⟩
          by_cases o7 : o = 7
          · have z7 : nI o = 7 := by rw [o7]; rfl
            rw [if_pos z7] at e2
            refine br_t (by rw [c4, eo]; exact z7) ⟨v4, br_f (by rw [c4, eo, o7]; decide) ⟨v4, br_t (by rw [c4, eo, o7]; decide) ⟨v4, br_f (by rw [c4, eo]; exact n0 o0) ⟨v4, br_t (by rw [c4, eo]; exact z7) (nm_e (nx _ _ ?_ (by rw [e2, g2])))⟩⟩⟩⟩
            rw [if_pos z7, g2]
          · have z7 : ¬ nI o = 7 := n7 o7
            rw [if_neg z7] at e2
            obtain ⟨wa, hwa, ea⟩ := ha (by omega) (by omega)
            have ca : (nI wa).toNatClampNeg = wa := nI_clamp (by omega)
            refine br_f (by rw [c4, eo]; exact z7) ⟨v4, by rw [c4, ea]; exact vp_in_nI (by omega) (by omega), ?_⟩
            rw [c4, ea, ca, g1 wa hwa]
            by_cases o1 : o = 1
            · have z1 : nI o = 1 := by rw [o1]; rfl
              refine ⟨v4, br_t (by rw [c4, eo, o1]; decide) ⟨v4, br_f (by rw [c4, eo]; exact n0 o0) ⟨v4, br_f (by rw [c4, eo]; exact z7) ⟨v4, ?_⟩⟩⟩⟩
              rw [c4, eo, o1]
              refine yv_rk1 (nx _ _ ?_ (by rw [e2, g2]))
              rw [if_neg z7, if_neg (n0 o0), if_pos z1, ea, ca]
            · obtain ⟨wb, hwb, eb⟩ := hc (by omega) (by omega)
              have cb : (nI wb).toNatClampNeg = wb := nI_clamp (by omega)
              refine ⟨v4, br_f (by rw [c4, eo]; exact nI_ge (a := 1) (by omega) (by omega)) ⟨v4, br_f (by rw [c4, eo]; exact nI_ge (b := 7) (by omega) (by decide)) ⟨v4, by rw [c4, eb]; exact vp_in_nI (by omega) (by omega), ?_⟩⟩⟩
              rw [c4, eb, cb, g1 wb hwb]
              refine ⟨v4, br_f (by rw [c4, eo]; exact n0 o0) ⟨v4, br_f (by rw [c4, eo]; exact z7) ⟨v4, ?_⟩⟩⟩
              rw [c4, eo]
              refine yv_rk (by omega) (by omega) (nx _ _ ?_ (by rw [e2, g2]))
              rw [if_neg z7, if_neg (n0 o0), if_neg (n1 o1), ea, ca, eb, cb]
  exact ⟨l + 1, L (l + 1) 0 yw s.2 (by omega) (by omega) hw rfl⟩
theorem yr_run (ok : fe_ok n kd th el) (hev : fe_ev n kd ev) (rl : fe_rl n kd ev th el us f1 f2) (is : fe_is n sz op rs fi se) (hk : k ≤ 3) {post : Int32 → SY → Prop} {a b c : Int32} (h0 : n = 0 → post (-1) ((nI n), (nI k), ym, yr, yb, yl, sz, op, rs, fi, se, kd, us, f1, f2, yv, nd, ru, eg, yg, nw, yo, yw))
    (hR : R = fv_go sz kd ev th el op rs fi se a b 199 0 (fv_bl sz op rs fi se a b 0 (fv_s0 k a b c, 0)))
    (hp : 0 < n → ∀ yw', post (if kd R.1 = 0 then 0 else 1) ((nI n), (nI k), ym, (if kd R.1 = 0 then R.2.1.1 (ev R.1).toNatClampNeg else 0), (nI (200 - R.2.2)), (nI R.1), sz, op, rs, fi, se, kd, us, f1, f2, yv, nd, ru, eg, yg, nw, yo, yw')) : wpY_run post ((nI n), (nI k), ym, yr, yb, yl, sz, op, rs, fi, se, kd, us, f1, f2, yv, nd, ru, eg, yg, nw, yo, yw) a b c := by
  have hn := ok.1
  have L : ∀ m g x s yw' yl', g ≤ 199 → g + 2 < m → x < n → (∀ v, v < 6 → yw' v = s.1 v) → R = fv_go sz kd ev th el op rs fi se a b g x (fv_bl sz op rs fi se a b x s) →
      wY_run_81 post a b (nI n) (nI k) ym m s.2 (nI x) 0 (nI (199 - g)) yl' sz op rs fi se kd us f1 f2 yv nd ru eg yg nw yo yw' := by
    intro m
    induction m with
    | zero => intro g x s yw' yl' _ h; omega
    | succ m ih =>
      intro g x s yw' yl' hg hm hx h1 h3
      refine br_f (nI_pos (by omega)) (br_f (nI_ge (b := 200) (by omega) (by decide)) ?_)
      intro y ey
      rw [nI_1] at ey
      subst ey
      refine nm_r (ys_4 x) ?_
      have e4 : 199 - g + 1 = 200 - g := by omega
      rw [e4]
      refine yr_118 ok hev rl is hx h1 (fun k0 yw2 => ?_) (fun k0 yw2 g1 => ?_)
      · have hR2 : R = (x, fv_bl sz op rs fi se a b x s, g) := by
          rw [h3]
          cases g with
          | zero => rfl
          | succ g => exact if_pos k0
        cases m with
        | zero => omega
        | succ m =>
          subst hR2
          have hp := hp (by omega)
          dsimp only at hp
          rw [if_pos k0, if_pos k0] at hp
          exact br_t (by decide) (br_t (by decide) (hp yw2))
      · cases g with
        | zero =>
          have hR2 : R = (x, fv_bl sz op rs fi se a b x s, 0) := h3
          cases m with
          | zero => omega
          | succ m =>
            subst hR2
            have hp := hp (by omega)
            dsimp only at hp
            rw [if_neg k0, if_neg k0] at hp
            have hl := fv_nxl (ev := ev) ok hx k0 (fv_bl sz op rs fi se a b x s).1
            exact br_f (nI_pos (by omega)) (br_t (by decide) (br_f (nI_pos (by omega)) (hp yw2)))
        | succ g =>
          have e3 : fv_go sz kd ev th el op rs fi se a b (g + 1) x (fv_bl sz op rs fi se a b x s) = fv_go sz kd ev th el op rs fi se a b g (fv_nx kd ev th el x (fv_bl sz op rs fi se a b x s).1) (fv_bl sz op rs fi se a b (fv_nx kd ev th el x (fv_bl sz op rs fi se a b x s).1) (fv_bl sz op rs fi se a b x s)) := if_neg k0
          rw [e3] at h3
          have hl := fv_nxl (ev := ev) ok hx k0 (fv_bl sz op rs fi se a b x s).1
          have e5 : 200 - (g + 1) = 199 - g := by omega
          rw [e5]
          exact ih g _ _ yw2 (nI x) (by omega) (by omega) hl g1 h3
  have L0 : 0 < n → ∀ m v yw', v ≤ 6 → 6 - v < m → (∀ w, w < v → yw' w = fv_s0 k a b c w) → wY_run_12 post a b c (nI n) (nI k) ym yr yb yl m (nI v) sz op rs fi se kd us f1 f2 yv nd ru eg yg nw yo yw' := by
    intro hn0 m
    induction m with
    | zero => intro v yw' _ h; omega
    | succ m ih =>
      intro v yw' hv hm h1
      by_cases e : v = 6
      · subst e
        exact br_t (by decide) ⟨202, L 202 199 0 (fv_s0 k a b c, 0) yw' yl (by omega) (by omega) hn0 h1 hR⟩
      · have cv : (nI v).toNatClampNeg = v := nI_clamp (by omega)
        have vv : vp_in (nI v) 6 := vp_in_nI (by omega) (by omega)
        have nx : ∀ w : Int32, w = fv_s0 k a b c v → ∀ y, y = upd yw' (nI v).toNatClampNeg w → wY_run_12 post a b c (nI n) (nI k) ym yr yb yl m (nI (v + 1)) sz op rs fi se kd us f1 f2 yv nd ru eg yg nw yo y := by
          intro w hw y ey
          rw [cv] at ey
          subst ey
          refine ih (v + 1) _ (by omega) (by omega) (fun u hu => ?_)
          by_cases eu : u = v
          · rw [eu, pk_us]; exact hw
          · rw [pk_un eu]; exact h1 u (by omega)
        unfold fv_s0 at nx
        refine br_f (nI_ge (b := 6) (by omega) (by decide)) ?_
        by_cases q : k ≤ v
        · rw [if_pos q] at nx
          exact br_f (nI_nlt q (by omega)) ⟨vv, fun y ey => nm_r (nI_1 v) (nx 0 rfl y ey)⟩
        · rw [if_neg q] at nx
          refine br_t (nI_lt (by omega) (by omega)) ?_
          by_cases v0 : v = 0
          · rw [if_pos v0] at nx
            exact br_t (by rw [v0]; rfl) ⟨vv, fun y ey => nm_r (nI_1 v) (nx a rfl y ey)⟩
          · rw [if_neg v0] at nx
            refine br_f (nI_ne0 (by omega) (by omega)) ?_
            by_cases v1 : v = 1
            · rw [if_pos v1] at nx
              exact br_t (by rw [v1]; rfl) ⟨vv, fun y ey => nm_r (nI_1 v) (nx b rfl y ey)⟩
            · rw [if_neg v1] at nx
              exact br_f (fun z => v1 ((nI_eq (b := 1) (by omega) (by decide)).mp z)) ⟨vv, fun y ey => nm_r (nI_1 v) (nx c rfl y ey)⟩
  by_cases e : n = 0
  · exact br_t (by rw [e]; rfl) (h0 e)
  · exact br_f (nI_ne0 (by omega) (by omega)) ⟨7, L0 (by omega) 7 0 yw (by omega) (by omega) (fun w hw => absurd hw (Nat.not_lt_zero w))⟩
end
end
section
/-- a call of 'add' that isn't BAD -/
def fi_ga (n : Nat) (v1 v2 v3 v4 v5 : Int32) (b : Nat) : Prop :=
  b < n ∧ v1 = nI b ∧ (∃ o, o < 8 ∧ v2 = nI o ∧ (1 ≤ o → o ≤ 6 → ∃ a, a < 6 ∧ v4 = nI a) ∧ (2 ≤ o → o ≤ 6 → ∃ c, c < 6 ∧ v5 = nI c)) ∧ ∃ d, d < 6 ∧ v3 = nI d
/-- a call of 'exit' that isn't refused -/
def fi_gx (n : Nat) (v1 v2 v3 v4 v5 : Int32) (b : Nat) : Prop :=
  b < n ∧ v1 = nI b ∧ (v2 = 0 ∨ v2 = 1 ∨ v2 = 2) ∧ (¬ v2 = 1 → ∃ v, v < 6 ∧ v3 = nI v) ∧ (¬ v2 = 0 → ∃ t, 1 ≤ t ∧ t < n ∧ v4 = nI t) ∧ (v2 = 2 → ∃ t, 1 ≤ t ∧ t < n ∧ v5 = nI t)
section
variable {n k : Nat} {me ob ot oe it lr lb la : Int32} {sz kd ev th el op rs fi se dm fr lv va : Nat → Int32} {bg en : Nat → Int64}
theorem xs_se {post : SX → Prop} {b : Nat} {kk v t e w1 w2 w3 : Int32} (hb : b < 16) (h1 : kk = 1 → w1 = 0) (h1' : ¬ kk = 1 → w1 = v) (h2 : kk = 0 → w2 = 0) (h2' : ¬ kk = 0 → w2 = t) (h3 : kk = 2 → w3 = e) (h3' : ¬ kk = 2 → w3 = 0)
    (hp : post ((nI n), (nI k), me, ob, ot, oe, it, lr, lb, la, sz, (upd kd b kk), (upd ev b w1), (upd th b w2), (upd el b w3), op, rs, fi, se, dm, fr, lv, bg, en, va)) : wpX_setExit post ((nI n), (nI k), me, ob, ot, oe, it, lr, lb, la, sz, kd, ev, th, el, op, rs, fi, se, dm, fr, lv, bg, en, va) (nI b) kk v t e := by
  have c : (nI b).toNatClampNeg = b := nI_clamp (by omega)
  have vi : vp_in (nI b) 16 := vp_in_nI (by omega) (by omega)
  have y38 : ∀ (kd ev : Nat → Int32), post ((nI n), (nI k), me, ob, ot, oe, it, lr, lb, la, sz, kd, ev, (upd th b w2), (upd el b w3), op, rs, fi, se, dm, fr, lv, bg, en, va) → wX_setExit_38 post (nI b) kk e w2 (nI b) (nI n) (nI k) me ob ot oe it lr lb la sz kd ev th el op rs fi se dm fr lv bg en va := by
    intro kd ev hp
    refine ⟨vi, ?_⟩
    intro y ey
    rw [c] at ey
    subst ey
    by_cases k2 : kk = 2
    · refine br_t k2 ⟨vi, ?_⟩
      intro y ey
      rw [c, ← h3 k2] at ey
      subst ey
      exact hp
    · refine br_f k2 ⟨vi, ?_⟩
      intro y ey
      rw [c, ← h3' k2] at ey
      subst ey
      exact hp
  have y22 : ∀ (kd : Nat → Int32), post ((nI n), (nI k), me, ob, ot, oe, it, lr, lb, la, sz, kd, (upd ev b w1), (upd th b w2), (upd el b w3), op, rs, fi, se, dm, fr, lv, bg, en, va) → wX_setExit_22 post (nI b) kk t e w1 (nI b) (nI n) (nI k) me ob ot oe it lr lb la sz kd ev th el op rs fi se dm fr lv bg en va := by
    intro kd hp
    refine ⟨vi, ?_⟩
    intro y ey
    rw [c] at ey
    subst ey
    by_cases k0 : kk = 0
    · refine br_t k0 ?_
      have := y38 kd _ hp
      rw [h2 k0] at this
      exact this
    · refine br_f k0 ?_
      have := y38 kd _ hp
      rw [h2' k0] at this
      exact this
  refine ⟨vi, ?_⟩
  intro y ey
  rw [c] at ey
  subst ey
  by_cases k1 : kk = 1
  · refine br_t k1 ?_
    have := y22 _ hp
    rw [h1 k1] at this
    exact this
  · refine br_f k1 ?_
    have := y22 _ hp
    rw [h1' k1] at this
    exact this
theorem xs_a61 {post : Int32 → SX → Prop} {b s : Nat} {v2 v3 v4 v5 : Int32} (hb : b < 16) (es : sz b = nI s) (hs : s ≤ 4) (h4 : s = 4 → post (-2) ((nI n), (nI k), me, ob, ot, oe, it, lr, lb, la, sz, kd, ev, th, el, op, rs, fi, se, dm, fr, lv, bg, en, va))
    (hlt : s < 4 → post (nI (s + 1)) ((nI n), (nI k), me, ob, ot, oe, it, lr, lb, la, (upd sz b (nI (s + 1))), kd, ev, th, el, (upd op (4 * b + s) v2), (upd rs (4 * b + s) v3), (upd fi (4 * b + s) v4), (upd se (4 * b + s) v5), dm, fr, lv, bg, en, va)) : wX_add_61 post (nI b) v2 v3 v4 v5 (nI n) (nI k) me ob ot oe it lr lb la sz kd ev th el op rs fi se dm fr lv bg en va := by
  have c : (nI b).toNatClampNeg = b := nI_clamp (by omega)
  have vi : vp_in (nI b) 16 := vp_in_nI (by omega) (by omega)
  by_cases e : s = 4
  · refine ⟨vi, br_f ?_ (h4 e)⟩
    rw [c, es, e]
    decide
  · have h := hlt (by omega)
    refine ⟨vi, br_t (by rw [c, es]; exact nI_lt (b := 4) (by omega) (by decide)) ⟨vi, ?_⟩⟩
    intro y ey
    rw [c, es, xs_ix] at ey
    subst ey
    have c4 : (nI (4 * b + s)).toNatClampNeg = 4 * b + s := nI_clamp (by omega)
    have v4 : vp_in (nI (4 * b + s)) 64 := vp_in_nI (by omega) (by omega)
    refine ⟨v4, ?_⟩
    intro y ey
    rw [c4] at ey
    subst ey
    refine ⟨v4, ?_⟩
    intro y ey
    rw [c4] at ey
    subst ey
    refine ⟨v4, ?_⟩
    intro y ey
    rw [c4] at ey
    subst ey
    refine ⟨v4, ?_⟩
    intro y ey
    rw [c4] at ey
    subst ey
    refine ⟨vi, vi, ?_⟩
    intro y ey
    rw [c, es, nI_1] at ey
    subst ey
    refine ⟨vi, ?_⟩
    rw [c, pk_us]
    exact h
theorem xs_add (hn : n ≤ 16) (is : fe_is n sz op rs fi se) {post : Int32 → SX → Prop} {v1 v2 v3 v4 v5 : Int32} (hbad : ¬ (∃ b, fi_ga n v1 v2 v3 v4 v5 b) → post (-1) ((nI n), (nI k), me, ob, ot, oe, it, lr, lb, la, sz, kd, ev, th, el, op, rs, fi, se, dm, fr, lv, bg, en, va))
    (hgood : ∀ b s, fi_ga n v1 v2 v3 v4 v5 b → sz b = nI s → s ≤ 4 → (s = 4 → post (-2) ((nI n), (nI k), me, ob, ot, oe, it, lr, lb, la, sz, kd, ev, th, el, op, rs, fi, se, dm, fr, lv, bg, en, va)) ∧
      (s < 4 → post (nI (s + 1)) ((nI n), (nI k), me, ob, ot, oe, it, lr, lb, la, (upd sz b (nI (s + 1))), kd, ev, th, el, (upd op (4 * b + s) v2), (upd rs (4 * b + s) v3), (upd fi (4 * b + s) v4), (upd se (4 * b + s) v5), dm, fr, lv, bg, en, va))) : wpX_add post ((nI n), (nI k), me, ob, ot, oe, it, lr, lb, la, sz, kd, ev, th, el, op, rs, fi, se, dm, fr, lv, bg, en, va) v1 v2 v3 v4 v5 := by
  unfold wpX_add
  refine xs_isB hn (fun z => br_t rfl (hbad (fun ⟨b, hb, eb, _⟩ => z b hb eb))) (fun b hb eb => br_f (by decide) ?_)
  rcases pk_ix v2 (n := 8) (by decide) with h | h | ⟨o, ho, eo⟩
  · refine br_t h (hbad (fun ⟨b, hb, eb, ⟨o, ho, eo, _⟩, _⟩ => ?_))
    rw [eo] at h
    exact nI_pos (by omega) h
  · refine br_f (fun z => nI_pos (n := 8) (by decide) (Int32.lt_of_le_of_lt h z)) (br_t (Int32.lt_of_lt_of_le (by decide) h) (hbad (fun ⟨b, hb, eb, ⟨o, ho, eo, _⟩, _⟩ => ?_)))
    rw [eo] at h
    exact nI_ge ho (by decide) h
  · subst eo
    have uo : ∀ {o' : Nat}, o' < 8 → nI o = nI o' → o' = o := fun ho' e => ((nI_eq (by omega) (by omega)).mp e).symm
    refine br_f (nI_pos (by omega)) (br_f (nI_nlt (a := 7) (by omega) (by decide)) (xs_isV (fun z => br_t rfl (hbad (fun ⟨_, _, _, _, d, hd, ed⟩ => z d hd ed))) (fun d hd ed => br_f (by decide) ?_)))
    have y61 : (1 ≤ o → o ≤ 6 → ∃ a, a < 6 ∧ v4 = nI a) → (2 ≤ o → o ≤ 6 → ∃ c, c < 6 ∧ v5 = nI c) → wX_add_61 post v1 (nI o) v3 v4 v5 (nI n) (nI k) me ob ot oe it lr lb la sz kd ev th el op rs fi se dm fr lv bg en va := by
      intro h1 h2
      obtain ⟨s, hs, es, _⟩ := is b hb
      have g := hgood b s ⟨hb, eb, ⟨o, ho, rfl, h1, h2⟩, d, hd, ed⟩ es hs
      subst eb
      exact xs_a61 (by clear h1 h2 g; omega) es hs g.1 g.2
    have y44 : (1 ≤ o → o ≤ 6 → ∃ a, a < 6 ∧ v4 = nI a) → wX_add_44 post v1 (nI o) v3 v4 v5 (nI n) (nI k) me ob ot oe it lr lb la sz kd ev th el op rs fi se dm fr lv bg en va := by
      intro h1
      unfold wX_add_44
      refine xs_u2 ho rfl (fun z => br_t rfl (y61 h1 (fun w1 w2 => absurd ⟨w1, w2⟩ z))) (fun z => br_f (by decide) (xs_isV (fun w => br_t rfl (hbad (fun ⟨_, _, _, ⟨o', ho', eo', _, h2⟩, _⟩ => ?_))) (fun a ha ea => br_f (by decide) (y61 h1 (fun _ _ => ⟨a, ha, ea⟩)))))
      rw [uo ho' eo'] at h2
      obtain ⟨c, hc, ec⟩ := h2 z.1 z.2
      exact w c hc ec
    refine xs_uf ho rfl (fun z => br_t rfl (y44 (fun w1 w2 => absurd ⟨w1, w2⟩ z))) (fun z => br_f (by decide) (xs_isV (fun w => br_t rfl (hbad (fun ⟨_, _, _, ⟨o', ho', eo', h1, _⟩, _⟩ => ?_))) (fun a ha ea => br_f (by decide) (y44 (fun _ _ => ⟨a, ha, ea⟩)))))
    rw [uo ho' eo'] at h1
    obtain ⟨c, hc, ec⟩ := h1 z.1 z.2
    exact w c hc ec
theorem xs_isT (hn : n ≤ 16) {post : Int32 → Prop} {b : Int32} (h0 : (∀ j, 1 ≤ j → j < n → ¬ b = nI j) → post 0) (h1 : ∀ j, 1 ≤ j → j < n → b = nI j → post 1) : wpX_isTarget post ((nI n), (nI k), me, ob, ot, oe, it, lr, lb, la, sz, kd, ev, th, el, op, rs, fi, se, dm, fr, lv, bg, en, va) b := by
  rcases pk_ix b (n := n) (by omega) with h | h | ⟨j, hj, e⟩
  · refine br_t (Int32.le_of_lt h) (h0 (fun j hj hj2 e => ?_))
    rw [e] at h
    exact nI_pos (by omega) h
  · by_cases z : b ≤ 0
    · refine br_t z (h0 (fun j hj hj2 e => ?_))
      rw [e] at z
      exact nI_nle (by omega) (by omega) z
    · refine br_f z (br_t h (h0 (fun j hj hj2 e => ?_)))
      rw [e] at h
      exact nI_ge hj2 (by omega) h
  · subst e
    by_cases z : j = 0
    · refine br_t (by rw [z]; decide) (h0 (fun i hi hi2 e => ?_))
      have := (nI_eq (by omega) (by omega)).mp e
      omega
    · exact br_f (nI_nle (by omega) (by omega)) (br_f (nI_ge hj (by omega)) (h1 j (by omega) hj rfl))
theorem xs_ext (hn : n ≤ 16) {post : Int32 → SX → Prop} {v1 v2 v3 v4 v5 : Int32} (hbad : ¬ (∃ b, fi_gx n v1 v2 v3 v4 v5 b) → post 0 ((nI n), (nI k), me, ob, ot, oe, it, lr, lb, la, sz, kd, ev, th, el, op, rs, fi, se, dm, fr, lv, bg, en, va))
    (hgood : ∀ b w1 w2 w3, fi_gx n v1 v2 v3 v4 v5 b → (¬ v2 = 1 → w1 = v3) → (¬ v2 = 0 → w2 = v4) → (v2 = 2 → w3 = v5) →
      post 1 ((nI n), (nI k), me, ob, ot, oe, it, lr, lb, la, sz, (upd kd b v2), (upd ev b w1), (upd th b w2), (upd el b w3), op, rs, fi, se, dm, fr, lv, bg, en, va)) : wpX_exit post ((nI n), (nI k), me, ob, ot, oe, it, lr, lb, la, sz, kd, ev, th, el, op, rs, fi, se, dm, fr, lv, bg, en, va) v1 v2 v3 v4 v5 := by
  unfold wpX_exit
  refine xs_isB hn (fun z => br_t rfl (hbad (fun ⟨b, hb, eb, _⟩ => z b hb eb))) (fun b hb eb => br_f (by decide) ?_)
  have nk : ∀ {v : Int32}, (v = 0 ∨ v = 1 ∨ v = 2) → ¬ v < 0 ∧ v ≤ 2 := fun h => by
    rcases h with e | e | e <;> rw [e] <;> decide
  by_cases l0 : v2 < 0
  · exact br_t l0 (hbad (fun ⟨_, _, _, h, _⟩ => (nk h).1 l0))
  refine br_f l0 ?_
  by_cases l2 : v2 ≤ 2
  · refine br_t l2 ?_
    obtain ⟨o, ho, eo⟩ := nI_of2 (n := 2) (by decide) l0 l2
    have hk : v2 = 0 ∨ v2 = 1 ∨ v2 = 2 := by
      have : o = 0 ∨ o = 1 ∨ o = 2 := by omega
      rcases this with e | e | e
      · exact Or.inl (by rw [eo, e]; rfl)
      · exact Or.inr (Or.inl (by rw [eo, e]; rfl))
      · exact Or.inr (Or.inr (by rw [eo, e]; rfl))
    have y64 : fi_gx n v1 v2 v3 v4 v5 b → wX_exit_64 post v1 v2 v3 v4 v5 (nI n) (nI k) me ob ot oe it lr lb la sz kd ev th el op rs fi se dm fr lv bg en va := by
      intro g
      unfold wX_exit_64
      subst eb
      have q := hgood b (if v2 = 1 then 0 else v3) (if v2 = 0 then 0 else v4) (if v2 = 2 then v5 else 0) g (fun z => if_neg z) (fun z => if_neg z) (fun z => if_pos z)
      exact xs_se (by omega) (fun z => if_pos z) (fun z => if_neg z) (fun z => if_pos z) (fun z => if_neg z) (fun z => if_pos z) (fun z => if_neg z) q
    have y48 : (¬ v2 = 1 → ∃ v, v < 6 ∧ v3 = nI v) → (¬ v2 = 0 → ∃ t, 1 ≤ t ∧ t < n ∧ v4 = nI t) → wX_exit_48 post v1 v2 v3 v4 v5 (nI n) (nI k) me ob ot oe it lr lb la sz kd ev th el op rs fi se dm fr lv bg en va := by
      intro h1 h2
      by_cases e2 : v2 = 2
      · refine br_t e2 (xs_isT hn (fun z => br_t rfl (hbad (fun ⟨_, _, _, _, _, _, h⟩ => ?_))) (fun t ht ht2 et => br_f (by decide) (y64 ⟨hb, eb, hk, h1, h2, fun _ => ⟨t, ht, ht2, et⟩⟩)))
        obtain ⟨t, ht, ht2, et⟩ := h e2
        exact z t ht ht2 et
      · exact br_f e2 (y64 ⟨hb, eb, hk, h1, h2, fun z => absurd z e2⟩)
    have y33 : (¬ v2 = 1 → ∃ v, v < 6 ∧ v3 = nI v) → wX_exit_33 post v1 v2 v3 v4 v5 (nI n) (nI k) me ob ot oe it lr lb la sz kd ev th el op rs fi se dm fr lv bg en va := by
      intro h1
      by_cases e0 : v2 = 0
      · exact br_t e0 (y48 h1 (fun z => absurd e0 z))
      · refine br_f e0 (xs_isT hn (fun z => br_t rfl (hbad (fun ⟨_, _, _, _, _, h, _⟩ => ?_))) (fun t ht ht2 et => br_f (by decide) (y48 h1 (fun _ => ⟨t, ht, ht2, et⟩))))
        obtain ⟨t, ht, ht2, et⟩ := h e0
        exact z t ht ht2 et
    by_cases e1 : v2 = 1
    · exact br_t e1 (y33 (fun z => absurd e1 z))
    · refine br_f e1 (xs_isV (fun z => br_t rfl (hbad (fun ⟨_, _, _, _, h, _⟩ => ?_))) (fun v hv ev2 => br_f (by decide) (y33 (fun _ => ⟨v, hv, ev2⟩))))
      obtain ⟨v, hv, ev2⟩ := h e1
      exact z v hv ev2
  · exact br_f l2 (hbad (fun ⟨_, _, _, h, _⟩ => l2 (nk h).2))
end
section
variable {n k : Nat} {ym yr yb yl : Int32} {sz kd ev th el op rs fi se us f1 f2 yv nd ru eg yo yw : Nat → Int32} {yg nw : Nat → Int64}
theorem ys_a72 {post : Int32 → SY → Prop} {b s : Nat} {v2 v3 v4 v5 : Int32} (hb : b < 16) (es : sz b = nI s) (hs : s ≤ 4) (h4 : s = 4 → post (-2) ((nI n), (nI k), ym, yr, yb, yl, sz, op, rs, fi, se, kd, us, f1, f2, yv, nd, ru, eg, yg, nw, yo, yw))
    (hlt : s < 4 → post (nI (s + 1)) ((nI n), (nI k), ym, yr, yb, yl, (upd sz b (nI (s + 1))), (upd op (4 * b + s) v2), (upd rs (4 * b + s) v3), (upd fi (4 * b + s) v4), (upd se (4 * b + s) v5), kd, us, f1, f2, yv, nd, ru, eg, yg, nw, yo, yw)) : wY_add_72 post (nI b) v2 v3 v4 v5 (nI n) (nI k) ym yr yb yl sz op rs fi se kd us f1 f2 yv nd ru eg yg nw yo yw := by
  have c : (nI b).toNatClampNeg = b := nI_clamp (by omega)
  have vi : vp_in (nI b) 16 := vp_in_nI (by omega) (by omega)
  by_cases e : s = 4
  · refine ⟨vi, br_t ?_ (h4 e)⟩
    rw [c, es, e]
    rfl
  · have h := hlt (by omega)
    refine ⟨vi, br_f (fun z => e ?_) ⟨vi, vi, ?_⟩⟩
    · rw [c, es] at z
      exact (nI_eq (b := 4) (by omega) (by decide)).mp z
    intro y ey
    rw [c, es, nI_1] at ey
    subst ey
    intro y ey
    rw [c, es, ys_4, nI_add] at ey
    subst ey
    have c4 : (nI (4 * b + s)).toNatClampNeg = 4 * b + s := nI_clamp (by omega)
    have v4 : vp_in (nI (4 * b + s)) 64 := vp_in_nI (by omega) (by omega)
    refine ⟨v4, ?_⟩
    intro y ey
    rw [c4] at ey
    subst ey
    refine ⟨v4, ?_⟩
    intro y ey
    rw [c4] at ey
    subst ey
    refine ⟨v4, ?_⟩
    intro y ey
    rw [c4] at ey
    subst ey
    refine ⟨v4, ?_⟩
    intro y ey
    rw [c4] at ey
    subst ey
    refine ⟨vi, ?_⟩
    rw [c, pk_us]
    exact h
theorem ys_add (hn : n ≤ 16) (is : fe_is n sz op rs fi se) {post : Int32 → SY → Prop} {v1 v2 v3 v4 v5 : Int32} (hbad : ¬ (∃ b, fi_ga n v1 v2 v3 v4 v5 b) → post (-1) ((nI n), (nI k), ym, yr, yb, yl, sz, op, rs, fi, se, kd, us, f1, f2, yv, nd, ru, eg, yg, nw, yo, yw))
    (hgood : ∀ b s, fi_ga n v1 v2 v3 v4 v5 b → sz b = nI s → s ≤ 4 → (s = 4 → post (-2) ((nI n), (nI k), ym, yr, yb, yl, sz, op, rs, fi, se, kd, us, f1, f2, yv, nd, ru, eg, yg, nw, yo, yw)) ∧
      (s < 4 → post (nI (s + 1)) ((nI n), (nI k), ym, yr, yb, yl, (upd sz b (nI (s + 1))), (upd op (4 * b + s) v2), (upd rs (4 * b + s) v3), (upd fi (4 * b + s) v4), (upd se (4 * b + s) v5), kd, us, f1, f2, yv, nd, ru, eg, yg, nw, yo, yw))) : wpY_add post ((nI n), (nI k), ym, yr, yb, yl, sz, op, rs, fi, se, kd, us, f1, f2, yv, nd, ru, eg, yg, nw, yo, yw) v1 v2 v3 v4 v5 := by
  unfold wpY_add
  refine ys_out n (by omega) (fun z => br_f (by decide) (hbad (fun ⟨b, hb, eb, _⟩ => z b hb eb))) (fun b hb eb => br_t rfl ?_)
  refine ys_out 8 (by decide) (fun z => br_f (by decide) (hbad (fun ⟨_, _, _, ⟨o, ho, eo, _⟩, _⟩ => z o ho eo))) (fun o ho eo => br_t rfl ?_)
  refine ys_out 6 (by decide) (fun z => br_f (by decide) (hbad (fun ⟨_, _, _, _, d, hd, ed⟩ => z d hd ed))) (fun d hd ed => br_t rfl ?_)
  subst eo
  have uo : ∀ {o' : Nat}, o' < 8 → nI o = nI o' → o' = o := fun ho' e => ((nI_eq (by omega) (by omega)).mp e).symm
  have y72 : (1 ≤ o → o ≤ 6 → ∃ a, a < 6 ∧ v4 = nI a) → (2 ≤ o → o ≤ 6 → ∃ c, c < 6 ∧ v5 = nI c) → wY_add_72 post v1 (nI o) v3 v4 v5 (nI n) (nI k) ym yr yb yl sz op rs fi se kd us f1 f2 yv nd ru eg yg nw yo yw := by
    intro h1 h2
    obtain ⟨s, hs, es, _⟩ := is b hb
    have g := hgood b s ⟨hb, eb, ⟨o, ho, rfl, h1, h2⟩, d, hd, ed⟩ es hs
    subst eb
    exact ys_a72 (by clear h1 h2 g; omega) es hs g.1 g.2
  have y49 : (1 ≤ o → o ≤ 6 → ∃ a, a < 6 ∧ v4 = nI a) → wY_add_49 post v1 (nI o) v3 v4 v5 (nI n) (nI k) ym yr yb yl sz op rs fi se kd us f1 f2 yv nd ru eg yg nw yo yw := by
    intro h1
    by_cases o1 : o ≤ 1
    · exact br_t (nI_le (b := 1) o1 (by decide)) (y72 h1 (fun w1 w2 => by omega))
    · refine br_f (nI_ge (a := 1) (by omega) (by omega)) ?_
      by_cases o7 : 7 ≤ o
      · exact br_t (nI_le (a := 7) o7 (by omega)) (y72 h1 (fun w1 w2 => by omega))
      · refine br_f (nI_ge (b := 7) (by omega) (by decide)) (ys_out 6 (by decide) (fun w => br_f (by decide) (hbad (fun ⟨_, _, _, ⟨o', ho', eo', _, h2⟩, _⟩ => ?_))) (fun a ha ea => br_t rfl (y72 h1 (fun _ _ => ⟨a, ha, ea⟩))))
        rw [uo ho' eo'] at h2
        obtain ⟨c, hc, ec⟩ := h2 (by omega) (by omega)
        exact w c hc ec
  by_cases o0 : o ≤ 0
  · exact br_t (nI_le (b := 0) o0 (by decide)) (y49 (fun w1 w2 => by omega))
  · refine br_f (nI_ge (a := 0) (by omega) (by omega)) ?_
    by_cases o7 : 7 ≤ o
    · exact br_t (nI_le (a := 7) o7 (by omega)) (y49 (fun w1 w2 => by omega))
    · refine br_f (nI_ge (b := 7) (by omega) (by decide)) (ys_out 6 (by decide) (fun w => br_f (by decide) (hbad (fun ⟨_, _, _, ⟨o', ho', eo', h1, _⟩, _⟩ => ?_))) (fun a ha ea => br_t rfl (y49 (fun _ _ => ⟨a, ha, ea⟩))))
      rw [uo ho' eo'] at h1
      obtain ⟨c, hc, ec⟩ := h1 (by omega) (by omega)
      exact w c hc ec
theorem ys_ext (hn : n ≤ 16) {post : Int32 → SY → Prop} {v1 v2 v3 v4 v5 : Int32} (hbad : ¬ (∃ b, fi_gx n v1 v2 v3 v4 v5 b) → post 0 ((nI n), (nI k), ym, yr, yb, yl, sz, op, rs, fi, se, kd, us, f1, f2, yv, nd, ru, eg, yg, nw, yo, yw))
    (hgood : ∀ b u1, fi_gx n v1 v2 v3 v4 v5 b → (¬ v2 = 1 → u1 = v3) → (v2 = 1 → u1 = -1) → post 1 ((nI n), (nI k), ym, yr, yb, yl, sz, op, rs, fi, se, (upd kd b v2), (upd us b u1), (upd f1 b v4), (upd f2 b v5), yv, nd, ru, eg, yg, nw, yo, yw)) : wpY_exit post ((nI n), (nI k), ym, yr, yb, yl, sz, op, rs, fi, se, kd, us, f1, f2, yv, nd, ru, eg, yg, nw, yo, yw) v1 v2 v3 v4 v5 := by
  unfold wpY_exit
  refine ys_out n (by omega) (fun z => br_f (by decide) (hbad (fun ⟨b, hb, eb, _⟩ => z b hb eb))) (fun b hb eb => br_t rfl ?_)
  refine ys_out 3 (by decide) (fun z => br_f (by decide) (hbad (fun ⟨_, _, _, h, _⟩ => ?_))) (fun o ho eo => br_t rfl ?_)
  · rcases h with e | e | e
    · exact z 0 (by decide) e
    · exact z 1 (by decide) e
    · exact z 2 (by decide) e
  have hk : v2 = 0 ∨ v2 = 1 ∨ v2 = 2 := by
    have : o = 0 ∨ o = 1 ∨ o = 2 := by omega
    rcases this with e | e | e
    · exact Or.inl (by rw [eo, e]; rfl)
    · exact Or.inr (Or.inl (by rw [eo, e]; rfl))
    · exact Or.inr (Or.inr (by rw [eo, e]; rfl))
  have tg : ∀ {x : Int32}, ¬ x < 1 → x < nI n → ∃ t, 1 ≤ t ∧ t < n ∧ x = nI t := by
    intro x h1 h2
    rcases pk_ix x (n := n) (by omega) with h | h | ⟨t, ht, et⟩
    · exact absurd (Int32.lt_trans h (by decide)) h1
    · exact absurd h2 (Int32.not_lt.mpr h)
    · refine ⟨t, ?_, ht, et⟩
      by_cases z : t = 0
      · rw [et, z] at h1
        exact absurd (by decide) h1
      · omega
  have tn : ∀ {x : Int32}, (∃ t, 1 ≤ t ∧ t < n ∧ x = nI t) → ¬ x < 1 ∧ x < nI n := by
    rintro x ⟨t, h1, h2, e⟩
    subst e
    exact ⟨nI_nlt (b := 1) h1 (by omega), nI_lt h2 (by omega)⟩
  have y76 : fi_gx n v1 v2 v3 v4 v5 b → wY_exit_76 post v1 v2 v3 v4 v5 (nI n) (nI k) ym yr yb yl sz op rs fi se kd us f1 f2 yv nd ru eg yg nw yo yw := by
    intro g
    subst eb
    have c : (nI b).toNatClampNeg = b := nI_clamp (by omega)
    have vi : vp_in (nI b) 16 := vp_in_nI (by omega) (by omega)
    have y98 : ∀ u1, (¬ v2 = 1 → u1 = v3) → (v2 = 1 → u1 = -1) → wY_exit_98 post (nI b) v4 v5 u1 (nI b) (nI n) (nI k) ym yr yb yl sz op rs fi se (upd kd b v2) us f1 f2 yv nd ru eg yg nw yo yw := by
      intro u1 g1 g2
      refine ⟨vi, ?_⟩
      intro y ey
      rw [c] at ey
      subst ey
      refine ⟨vi, ?_⟩
      intro y ey
      rw [c] at ey
      subst ey
      refine ⟨vi, ?_⟩
      intro y ey
      rw [c] at ey
      subst ey
      exact hgood b u1 g g1 g2
    refine ⟨vi, ?_⟩
    intro y ey
    rw [c] at ey
    subst ey
    by_cases e1 : v2 = 1
    · exact br_t e1 (y98 (-1) (fun z => absurd e1 z) (fun _ => rfl))
    · exact br_f e1 (y98 v3 (fun _ => rfl) (fun z => absurd z e1))
  have y54 : (¬ v2 = 1 → ∃ v, v < 6 ∧ v3 = nI v) → (¬ v2 = 0 → ∃ t, 1 ≤ t ∧ t < n ∧ v4 = nI t) → wY_exit_54 post v1 v2 v3 v4 v5 (nI n) (nI k) ym yr yb yl sz op rs fi se kd us f1 f2 yv nd ru eg yg nw yo yw := by
    intro h1 h2
    by_cases e2 : v2 = 2
    · refine br_t e2 ?_
      by_cases l1 : v5 < 1
      · exact br_t l1 (hbad (fun ⟨_, _, _, _, _, _, h⟩ => (tn (h e2)).1 l1))
      · refine br_f l1 ?_
        by_cases l2 : v5 < nI n
        · exact br_t l2 (y76 ⟨hb, eb, hk, h1, h2, fun _ => tg l1 l2⟩)
        · exact br_f l2 (hbad (fun ⟨_, _, _, _, _, _, h⟩ => l2 (tn (h e2)).2))
    · exact br_f e2 (y76 ⟨hb, eb, hk, h1, h2, fun z => absurd z e2⟩)
  have y35 : (¬ v2 = 1 → ∃ v, v < 6 ∧ v3 = nI v) → wY_exit_35 post v1 v2 v3 v4 v5 (nI n) (nI k) ym yr yb yl sz op rs fi se kd us f1 f2 yv nd ru eg yg nw yo yw := by
    intro h1
    by_cases e0 : v2 = 0
    · exact br_t e0 (y54 h1 (fun z => absurd e0 z))
    · refine br_f e0 ?_
      by_cases l1 : v4 < 1
      · exact br_t l1 (hbad (fun ⟨_, _, _, _, _, h, _⟩ => (tn (h e0)).1 l1))
      · refine br_f l1 ?_
        by_cases l2 : nI n ≤ v4
        · exact br_t l2 (hbad (fun ⟨_, _, _, _, _, h, _⟩ => Int32.not_lt.mpr l2 (tn (h e0)).2))
        · exact br_f l2 (y54 h1 (fun _ => tg l1 (Int32.not_le.mp l2)))
  by_cases e1 : v2 = 1
  · exact br_t e1 (y35 (fun z => absurd e1 z))
  · refine br_f e1 (ys_out 6 (by decide) (fun z => br_f (by decide) (hbad (fun ⟨_, _, _, _, h, _⟩ => ?_))) (fun v hv ev2 => br_t rfl (y35 (fun _ => ⟨v, hv, ev2⟩))))
    obtain ⟨v, hv, ev2⟩ := h e1
    exact z v hv ev2
end
end
section
theorem i_up {k : Nat} {u : SX} {v : SY} (h : i_Rel k u v) : i_Rel (k + 6) u v := h
theorem i_vc0 : wpX_init (fun u => wpY_init (fun v => i_Rel 0 u v)) := by
  unfold wpX_init wpY_init
  exact i_mk (n := 0) (k := 0) fi_0
theorem i_vc_block {k : Nat} {u : SX} {v : SY} (I : i_Rel k u v) (hk : k + 6 ≤ 3072) : wpX_block (fun r u' => wpY_block (fun r' v' => r' = r ∧ i_Rel (k + 6) u' v') v) u := by
  obtain ⟨n, kk, lr, lb, la, me, ob, ot, oe, it, ym, sz, kd, ev, th, el, op, rs, fi, se, us, f1, f2, dm, fr, lv, va, yv, nd, ru, eg, yo, yw, bg, en, yg, nw, rfl, rfl, G⟩ := I
  have G2 := G
  obtain ⟨hn, hk3, ok, hev, is, rl⟩ := G2
  by_cases e : n = 16
  · subst e
    exact br_f (by decide) (br_t rfl ⟨rfl, i_mk G⟩)
  · have c : (nI n).toNatClampNeg = n := nI_clamp (by omega)
    have vi : vp_in (nI n) 16 := vp_in_nI (by omega) (by omega)
    refine br_t (nI_lt (b := 16) (by omega) (by decide)) ⟨vi, ?_⟩
    intro y ey
    rw [c] at ey
    subst ey
    refine xs_se (b := n) (w1 := 0) (w2 := 0) (w3 := 0) (by omega) (fun _ => rfl) (fun _ => rfl) (fun _ => rfl) (fun _ => rfl) (fun _ => rfl) (fun _ => rfl) ?_
    refine nm_r (nI_1 n) ?_
    refine br_f (fun z => e ((nI_eq (b := 16) (by omega) (by decide)).mp z)) ⟨vi, ?_⟩
    intro y ey
    rw [c] at ey
    subst ey
    refine ⟨vi, ?_⟩
    intro y ey
    rw [c] at ey
    subst ey
    refine ⟨vi, ?_⟩
    intro y ey
    rw [c] at ey
    subst ey
    exact nm_r (nI_1 n) ⟨rfl, i_mk (fi_b G (by omega))⟩
theorem i_vc_add {k : Nat} {u : SX} {v : SY} (I : i_Rel k u v) (hk : k + 6 ≤ 3072) (v1 : Int32) (v2 : Int32) (v3 : Int32) (v4 : Int32) (v5 : Int32) : wpX_add (fun r u' => wpY_add (fun r' v' => r' = r ∧ i_Rel (k + 6) u' v') v v1 v2 v3 v4 v5) u v1 v2 v3 v4 v5 := by
  obtain ⟨n, kk, lr, lb, la, me, ob, ot, oe, it, ym, sz, kd, ev, th, el, op, rs, fi, se, us, f1, f2, dm, fr, lv, va, yv, nd, ru, eg, yo, yw, bg, en, yg, nw, rfl, rfl, G⟩ := I
  have G2 := G
  obtain ⟨hn, hk3, ok, hev, is, rl⟩ := G2
  refine xs_add hn is (fun nb => ?_) (fun b s g es hs => ⟨fun e4 => ?_, fun e4 => ?_⟩)
  · exact ys_add hn is (fun _ => ⟨rfl, i_mk G⟩) (fun b s g _ _ => absurd ⟨b, g⟩ nb)
  · refine ys_add hn is (fun nb => absurd ⟨b, g⟩ nb) (fun b' s' g' es' hs' => ⟨fun _ => ⟨rfl, i_mk G⟩, fun l4 => ?_⟩)
    have eb : b' = b := (nI_eq (by have := g'.1; omega) (by have := g.1; omega)).mp (g'.2.1.symm.trans g.2.1)
    subst eb
    have := (nI_eq (by omega) (by omega)).mp (es.symm.trans es')
    omega
  · refine ys_add hn is (fun nb => absurd ⟨b, g⟩ nb) (fun b' s' g' es' hs' => ⟨fun l4 => ?_, fun l4 => ?_⟩)
    · have eb : b' = b := (nI_eq (by have := g'.1; omega) (by have := g.1; omega)).mp (g'.2.1.symm.trans g.2.1)
      subst eb
      have := (nI_eq (by omega) (by omega)).mp (es.symm.trans es')
      omega
    · have eb : b' = b := (nI_eq (by have := g'.1; omega) (by have := g.1; omega)).mp (g'.2.1.symm.trans g.2.1)
      subst eb
      have e2 := (nI_eq (by omega) (by omega)).mp (es.symm.trans es')
      subst e2
      exact ⟨rfl, i_mk (fi_a G g.1 es e4 g.2.2)⟩
theorem i_vc_exit {k : Nat} {u : SX} {v : SY} (I : i_Rel k u v) (hk : k + 6 ≤ 3072) (v1 : Int32) (v2 : Int32) (v3 : Int32) (v4 : Int32) (v5 : Int32) : wpX_exit (fun r u' => wpY_exit (fun r' v' => r' = r ∧ i_Rel (k + 6) u' v') v v1 v2 v3 v4 v5) u v1 v2 v3 v4 v5 := by
  obtain ⟨n, kk, lr, lb, la, me, ob, ot, oe, it, ym, sz, kd, ev, th, el, op, rs, fi, se, us, f1, f2, dm, fr, lv, va, yv, nd, ru, eg, yo, yw, bg, en, yg, nw, rfl, rfl, G⟩ := I
  have G2 := G
  obtain ⟨hn, hk3, ok, hev, is, rl⟩ := G2
  refine xs_ext hn (fun nb => ?_) (fun b w1 w2 w3 g h1 h2 h3 => ?_)
  · exact ys_ext hn (fun _ => ⟨rfl, i_mk G⟩) (fun b u1 g _ _ => absurd ⟨b, g⟩ nb)
  · refine ys_ext hn (fun nb => absurd ⟨b, g⟩ nb) (fun b' u1 g' h4 h5 => ?_)
    have eb : b' = b := (nI_eq (by have := g'.1; omega) (by have := g.1; omega)).mp (g'.2.1.symm.trans g.2.1)
    subst eb
    refine ⟨rfl, i_mk (fi_x G g.1 g.2.2.1 (fun z => ⟨h2 z, g.2.2.2.2.1 z⟩) (fun z => ⟨h3 z, g.2.2.2.2.2 z⟩) (fun z => ⟨(h4 z).trans (h1 z).symm, ?_⟩) h5)⟩
    rw [h1 z]
    exact g.2.2.2.1 z
theorem i_vc_parameters {k : Nat} {u : SX} {v : SY} (I : i_Rel k u v) (hk : k + 6 ≤ 3072) (v1 : Int32) : wpX_parameters (fun r u' => wpY_parameters (fun r' v' => r' = r ∧ i_Rel (k + 6) u' v') v v1) u v1 := by
  obtain ⟨n, kk, lr, lb, la, me, ob, ot, oe, it, ym, sz, kd, ev, th, el, op, rs, fi, se, us, f1, f2, dm, fr, lv, va, yv, nd, ru, eg, yo, yw, bg, en, yg, nw, rfl, rfl, G⟩ := I
  have G2 := G
  obtain ⟨hn, hk3, ok, hev, is, rl⟩ := G2
  rcases pk_ix v1 (n := 4) (by decide) with h | h | ⟨j, hj, e⟩
  · refine br_t h ?_
    show wpY_parameters _ _ _
    unfold wpY_parameters
    refine ys_out 4 (by decide) (fun _ => br_f (by decide) ⟨rfl, i_mk G⟩) (fun j hj e => ?_)
    rw [e] at h
    exact absurd h (nI_pos (by omega))
  · refine br_f (fun z => nI_pos (n := 4) (by decide) (Int32.lt_of_le_of_lt h z)) (br_f (fun z => absurd (Int32.le_trans h z) (by decide)) ?_)
    show wpY_parameters _ _ _
    unfold wpY_parameters
    refine ys_out 4 (by decide) (fun _ => br_f (by decide) ⟨rfl, i_mk G⟩) (fun j hj e => ?_)
    rw [e] at h
    exact absurd h (nI_ge hj (by decide))
  · subst e
    refine br_f (nI_pos (by omega)) (br_t (nI_le (b := 3) (by omega) (by decide)) ?_)
    show wpY_parameters _ _ _
    unfold wpY_parameters
    exact ys_out 4 (by decide) (fun z => absurd rfl (z j hj)) (fun _ _ _ => br_t rfl ⟨rfl, i_mk (fi_k G (by omega))⟩)
theorem i_vc_clear {k : Nat} {u : SX} {v : SY} (I : i_Rel k u v) (hk : k + 6 ≤ 3072) : wpX_clear (fun r u' => wpY_clear (fun r' v' => r' = r ∧ i_Rel (k + 6) u' v') v) u := by
  obtain ⟨n, kk, lr, lb, la, me, ob, ot, oe, it, ym, sz, kd, ev, th, el, op, rs, fi, se, us, f1, f2, dm, fr, lv, va, yv, nd, ru, eg, yo, yw, bg, en, yg, nw, rfl, rfl, G⟩ := I
  have G2 := G
  obtain ⟨hn, hk3, ok, hev, is, rl⟩ := G2
  exact ⟨rfl, i_mk (n := 0) (k := 0) fi_0⟩
theorem i_vc_parent {k : Nat} {u : SX} {v : SY} (I : i_Rel k u v) (hk : k + 6 ≤ 3072) (v1 : Int32) : wpX_parent (fun r u' => wpY_parent (fun r' v' => r' = r ∧ i_Rel (k + 6) u' v') v v1) u v1 := by
  obtain ⟨n, kk, lr, lb, la, me, ob, ot, oe, it, ym, sz, kd, ev, th, el, op, rs, fi, se, us, f1, f2, dm, fr, lv, va, yv, nd, ru, eg, yo, yw, bg, en, yg, nw, rfl, rfl, G⟩ := I
  have G2 := G
  obtain ⟨hn, hk3, ok, hev, is, rl⟩ := G2
  refine xs_par ok (fun z => ?_) (fun b hb eb r me' dm' fr' hr => ?_)
  · exact ys_parO ok rl z (fun ym' ru' => ⟨rfl, i_mk G⟩)
  · subst eb
    exact ys_par ok rl hb hr (fun ym' ru' => ⟨rfl, i_mk G⟩)
theorem i_vc_dominates {k : Nat} {u : SX} {v : SY} (I : i_Rel k u v) (hk : k + 6 ≤ 3072) (v1 : Int32) (v2 : Int32) : wpX_dominates (fun r u' => wpY_dominates (fun r' v' => r' = r ∧ i_Rel (k + 6) u' v') v v1 v2) u v1 v2 := by
  obtain ⟨n, kk, lr, lb, la, me, ob, ot, oe, it, ym, sz, kd, ev, th, el, op, rs, fi, se, us, f1, f2, dm, fr, lv, va, yv, nd, ru, eg, yo, yw, bg, en, yg, nw, rfl, rfl, G⟩ := I
  have G2 := G
  obtain ⟨hn, hk3, ok, hev, is, rl⟩ := G2
  refine xs_dms ok (fun me' dm' fr' z => ?_) (fun me' dm' fr' z => ?_)
  · exact ys_dms ok rl (fun ym' ru' _ => ⟨rfl, i_mk G⟩) (fun ym' ru' w => absurd w z)
  · exact ys_dms ok rl (fun ym' ru' w => absurd z w) (fun ym' ru' _ => ⟨rfl, i_mk G⟩)
theorem i_vc_frontier {k : Nat} {u : SX} {v : SY} (I : i_Rel k u v) (hk : k + 6 ≤ 3072) (v1 : Int32) : wpX_frontier (fun r u' => wpY_frontier (fun r' v' => r' = r ∧ i_Rel (k + 6) u' v') v v1) u v1 := by
  obtain ⟨n, kk, lr, lb, la, me, ob, ot, oe, it, ym, sz, kd, ev, th, el, op, rs, fi, se, us, f1, f2, dm, fr, lv, va, yv, nd, ru, eg, yo, yw, bg, en, yg, nw, rfl, rfl, G⟩ := I
  have G2 := G
  obtain ⟨hn, hk3, ok, hev, is, rl⟩ := G2
  refine xs_frt ok (fun r me' dm' fr' hr => ?_)
  exact ys_frt ok rl (fun r' ym' ru' hr' => ⟨fa_ext (fun i => (hr' i).trans (hr i).symm), i_mk G⟩)
theorem i_vc_merges {k : Nat} {u : SX} {v : SY} (I : i_Rel k u v) (hk : k + 6 ≤ 3072) (v1 : Int32) : wpX_merges (fun r u' => wpY_merges (fun r' v' => r' = r ∧ i_Rel (k + 6) u' v') v v1) u v1 := by
  obtain ⟨n, kk, lr, lb, la, me, ob, ot, oe, it, ym, sz, kd, ev, th, el, op, rs, fi, se, us, f1, f2, dm, fr, lv, va, yv, nd, ru, eg, yo, yw, bg, en, yg, nw, rfl, rfl, G⟩ := I
  have G2 := G
  obtain ⟨hn, hk3, ok, hev, is, rl⟩ := G2
  refine xs_mer ok is (fun r me' dm' fr' hr => ?_)
  exact ys_mer ok rl is (fun r' ym' ru' eg' hr' => ⟨fa_ext (fun i => (hr' i).trans (hr i).symm), i_mk G⟩)
theorem i_vc_depth {k : Nat} {u : SX} {v : SY} (I : i_Rel k u v) (hk : k + 6 ≤ 3072) (v1 : Int32) : wpX_depth (fun r u' => wpY_depth (fun r' v' => r' = r ∧ i_Rel (k + 6) u' v') v v1) u v1 := by
  obtain ⟨n, kk, lr, lb, la, me, ob, ot, oe, it, ym, sz, kd, ev, th, el, op, rs, fi, se, us, f1, f2, dm, fr, lv, va, yv, nd, ru, eg, yo, yw, bg, en, yg, nw, rfl, rfl, G⟩ := I
  have G2 := G
  obtain ⟨hn, hk3, ok, hev, is, rl⟩ := G2
  refine xs_dep ok (fun z => ?_) (fun b hb eb me' dm' fr' => ?_)
  · exact ys_dep ok rl (fun _ => ⟨rfl, i_mk G⟩) (fun b hb eb => absurd eb (z b hb))
  · refine ys_dep ok rl (fun z => absurd eb (z b hb)) (fun b' hb' eb' ym' ru' => ⟨?_, i_mk G⟩)
    have e : b' = b := (nI_eq (by omega) (by omega)).mp (eb'.symm.trans eb)
    subst e
    rw [fa_cn16 hn (fun h hh => ?_)]
    obtain ⟨⟨x, hx⟩, _⟩ := fa_pt.mp hh
    exact fe_Mn ok hx.2.1
theorem i_vc_lives {k : Nat} {u : SX} {v : SY} (I : i_Rel k u v) (hk : k + 6 ≤ 3072) (v1 : Int32) : wpX_lives (fun r u' => wpY_lives (fun r' v' => r' = r ∧ i_Rel (k + 6) u' v') v v1) u v1 := by
  obtain ⟨n, kk, lr, lb, la, me, ob, ot, oe, it, ym, sz, kd, ev, th, el, op, rs, fi, se, us, f1, f2, dm, fr, lv, va, yv, nd, ru, eg, yo, yw, bg, en, yg, nw, rfl, rfl, G⟩ := I
  have G2 := G
  obtain ⟨hn, hk3, ok, hev, is, rl⟩ := G2
  refine xs_lvs ok hev is (fun z => ?_) (fun b hb eb lv' hl => ?_)
  · exact ys_lvs ok hev rl is (fun _ => ⟨rfl, i_mk G⟩) (fun b hb eb => absurd eb (z b hb))
  · refine ys_lvs ok hev rl is (fun z => absurd eb (z b hb)) (fun b' hb' eb' yv' hl' => ⟨?_, i_mk G⟩)
    have e : b' = b := (nI_eq (by omega) (by omega)).mp (eb'.symm.trans eb)
    subst e
    exact fl_uq hl' hl b' hb'
theorem i_vc_needed {k : Nat} {u : SX} {v : SY} (I : i_Rel k u v) (hk : k + 6 ≤ 3072) (v1 : Int32) : wpX_needed (fun r u' => wpY_needed (fun r' v' => r' = r ∧ i_Rel (k + 6) u' v') v v1) u v1 := by
  obtain ⟨n, kk, lr, lb, la, me, ob, ot, oe, it, ym, sz, kd, ev, th, el, op, rs, fi, se, us, f1, f2, dm, fr, lv, va, yv, nd, ru, eg, yo, yw, bg, en, yg, nw, rfl, rfl, G⟩ := I
  have G2 := G
  obtain ⟨hn, hk3, ok, hev, is, rl⟩ := G2
  refine xs_ndd ok hev is (fun z => ?_) (fun b hb eb mb r lv' hl hr => ?_)
  · refine ys_ndd ok hev rl is (fun ym' ru' nd' yv' _ => ⟨rfl, i_mk G⟩) (fun b hb eb r ym' ru' nd' yv' hf => ⟨?_, i_mk G⟩)
    obtain ⟨N, LY, hI, hY, hS, er⟩ := hf
    rw [er]
    apply fa_ext
    intro i
    exact ⟨fun w => absurd (hI.2.1 b hb i w).2 (z b hb eb), fun w => absurd w (sl_no i)⟩
  · refine ys_ndd ok hev rl is (fun ym' ru' nd' yv' z => absurd eb (z b hb)) (fun b' hb' eb' r' ym' ru' nd' yv' hf => ⟨?_, i_mk G⟩)
    have e : b' = b := (nI_eq (by omega) (by omega)).mp (eb'.symm.trans eb)
    subst e
    obtain ⟨N, LY, hI, hY, hS, er⟩ := hf
    rw [er]
    apply fa_ext
    intro i
    rw [hr i]
    have hd : ∀ b, b < n → ∀ i, i < (sz b).toNatClampNeg → ∀ j, bt (fe_m rs b i) j = true ↔ j = fe_d rs b i := by
      intro b hb i hi
      obtain ⟨s, hs, es, cs, hin⟩ := fe_ix is hb
      rw [cs] at hi
      obtain ⟨_, v, hv, ev2⟩ := hin i hi
      exact fe_mb ev2 hv
    constructor
    · intro w
      have hi := (hI.2.1 b' hb' i w).1
      exact ⟨hi, (fn_I2 (fe_x1 ok hev) hd hI hY hS hl hb' mb hi).mp w⟩
    · intro w
      exact (fn_I2 (fe_x1 ok hev) hd hI hY hS hl hb' mb w.1).mpr w.2
theorem i_vc_value {k : Nat} {u : SX} {v : SY} (I : i_Rel k u v) (hk : k + 6 ≤ 3072) (v1 : Int32) (v2 : Int32) (v3 : Int32) : wpX_value (fun r u' => wpY_value (fun r' v' => r' = r ∧ i_Rel (k + 6) u' v') v v1 v2 (lw_bz v3)) u v1 v2 (lw_bz v3) := by
  obtain ⟨n, kk, lr, lb, la, me, ob, ot, oe, it, ym, sz, kd, ev, th, el, op, rs, fi, se, us, f1, f2, dm, fr, lv, va, yv, nd, ru, eg, yo, yw, bg, en, yg, nw, rfl, rfl, G⟩ := I
  have G2 := G
  obtain ⟨hn, hk3, ok, hev, is, rl⟩ := G2
  refine xv_val ok hev is hk3 (fun z => ?_) (fun b w hb hw eb ew p bg' en' ob' ot' oe' hso => ?_)
  · exact yv_val ok hev rl is hk3 (fun _ => ⟨rfl, i_mk G⟩) (fun b w hb hw eb ew => absurd ⟨b, w, hb, hw, eb, ew⟩ z)
  · refine yv_val ok hev rl is hk3 (fun z => absurd ⟨b, w, hb, hw, eb, ew⟩ z) (fun b' w' hb' hw' eb' ew' p' yg' nw' yo' hso' => ⟨?_, i_mk G⟩)
    have e : b' = b := (nI_eq (by omega) (by omega)).mp (eb'.symm.trans eb)
    have e2 : w' = w := (nI_eq (by omega) (by omega)).mp (ew'.symm.trans ew)
    have e3 := fz_so_u hso hso'
    rw [e, e2, e3]
theorem i_vc_count {k : Nat} {u : SX} {v : SY} (I : i_Rel k u v) (hk : k + 6 ≤ 3072) (v1 : Int32) : wpX_count (fun r u' => wpY_count (fun r' v' => r' = r ∧ i_Rel (k + 6) u' v') v v1) u v1 := by
  obtain ⟨n, kk, lr, lb, la, me, ob, ot, oe, it, ym, sz, kd, ev, th, el, op, rs, fi, se, us, f1, f2, dm, fr, lv, va, yv, nd, ru, eg, yo, yw, bg, en, yg, nw, rfl, rfl, G⟩ := I
  have G2 := G
  obtain ⟨hn, hk3, ok, hev, is, rl⟩ := G2
  have yc : ∀ (w : Nat) (rr : Int32) (me ob ot oe it : Int32) (bg en : Nat → Int64), w < 4 → v1 = nI w → (∀ p, fz_so sz kd ev th el op rs fi se n (fz_p0 n kk) p → nI (fz_sm (fz_g n sz kd ev th el op rs fi se p w) n) = rr) →
      wpY_count (fun r' v' => r' = rr ∧ i_Rel (k + 6) ((nI n), (nI kk), me, ob, ot, oe, it, lr, lb, la, sz, kd, ev, th, el, op, rs, fi, se, dm, fr, lv, bg, en, va) v') ((nI n), (nI kk), ym, lr, lb, la, sz, op, rs, fi, se, kd, us, f1, f2, yv, nd, ru, eg, yg, nw, yo, yw) v1 := by
    intro w rr me ob ot oe it bg en hw ew hp
    refine yc_cnt ok hev rl is hk3 (fun z => absurd ew (z w hw)) (fun w' hw' ew' p yg' nw' yo' ym' ru' hso => ⟨?_, i_mk G⟩)
    have e : w' = w := (nI_eq (by omega) (by omega)).mp (ew'.symm.trans ew)
    rw [e]
    exact hp p hso
  refine xv_cnt ok hev is hk3 (fun z => ?_) (fun e => ?_) (fun e => ?_) (fun e p bg' en' ob' ot' oe' hso => ?_) (fun e p bg' en' ob' ot' oe' hso => ?_)
  · exact yc_cnt ok hev rl is hk3 (fun _ => ⟨rfl, i_mk G⟩) (fun w hw ew => absurd ew (z w hw))
  · exact yc 0 _ me ob ot oe it bg en (by decide) e (fun p _ => rfl)
  · exact yc 2 _ me ob ot oe it bg en (by decide) e (fun p _ => rfl)
  · refine yc 1 _ me ob' ot' oe' it bg' en' (by decide) e (fun p' hso' => ?_)
    rw [fz_so_u hso hso']
    rfl
  · refine yc 3 _ me ob' ot' oe' it bg' en' (by decide) e (fun p' hso' => ?_)
    rw [fz_so_u hso hso']
    rfl
theorem i_vc_run {k : Nat} {u : SX} {v : SY} (I : i_Rel k u v) (hk : k + 6 ≤ 3072) (v1 : Int32) (v2 : Int32) (v3 : Int32) : wpX_run (fun r u' => wpY_run (fun r' v' => r' = r ∧ i_Rel (k + 6) u' v') v v1 v2 v3) u v1 v2 v3 := by
  obtain ⟨n, kk, lr, lb, la, me, ob, ot, oe, it, ym, sz, kd, ev, th, el, op, rs, fi, se, us, f1, f2, dm, fr, lv, va, yv, nd, ru, eg, yo, yw, bg, en, yg, nw, rfl, rfl, G⟩ := I
  have G2 := G
  obtain ⟨hn, hk3, ok, hev, is, rl⟩ := G2
  obtain ⟨R, hR⟩ : ∃ R, R = fv_go sz kd ev th el op rs fi se v1 v2 199 0 (fv_bl sz op rs fi se v1 v2 0 (fv_s0 kk v1 v2 v3, 0)) := ⟨_, rfl⟩
  refine xr_run (R := R) ok hev is hk3 (fun e => ?_) hR (fun h0 va' it' => ?_)
  · exact yr_run (R := R) ok hev rl is hk3 (fun _ => ⟨rfl, i_mk G⟩) hR (fun h0 yw' => absurd e (by omega))
  · exact yr_run (R := R) ok hev rl is hk3 (fun e => absurd e (by omega)) hR (fun _ yw' => ⟨rfl, i_mk G⟩)
theorem i_vc_last {k : Nat} {u : SX} {v : SY} (I : i_Rel k u v) (hk : k + 6 ≤ 3072) (v1 : Int32) : wpX_last (fun r => wpY_last (fun r' => r' = r ∧ i_Rel (k + 6) u v) v v1) u v1 := by
  obtain ⟨n, kk, lr, lb, la, me, ob, ot, oe, it, ym, sz, kd, ev, th, el, op, rs, fi, se, us, f1, f2, dm, fr, lv, va, yv, nd, ru, eg, yo, yw, bg, en, yg, nw, rfl, rfl, G⟩ := I
  have G2 := G
  obtain ⟨hn, hk3, ok, hev, is, rl⟩ := G2
  rcases pk_ix v1 (n := 3) (by decide) with h | h | ⟨j, hj, e⟩
  · refine br_t h (br_f (fun z => ?_) (br_f (fun z => ?_) (br_f (fun z => ?_) ⟨rfl, i_mk G⟩)))
    · rw [z] at h; exact absurd h (by decide)
    · rw [z] at h; exact absurd h (by decide)
    · rw [z] at h; exact absurd h (by decide)
  · refine br_f (fun z => nI_pos (n := 3) (by decide) (Int32.lt_of_le_of_lt h z)) (br_t (Int32.lt_of_lt_of_le (by decide) h) (br_f (fun z => ?_) (br_f (fun z => ?_) (br_f (fun z => ?_) ⟨rfl, i_mk G⟩))))
    · rw [z] at h; exact absurd h (by decide)
    · rw [z] at h; exact absurd h (by decide)
    · rw [z] at h; exact absurd h (by decide)
  · have h3 : j = 0 ∨ j = 1 ∨ j = 2 := by omega
    subst e
    rcases h3 with e | e | e
    · subst e
      exact br_f (by decide) (br_f (by decide) (br_t (by decide) (br_t (by decide) ⟨rfl, i_mk G⟩)))
    · subst e
      exact br_f (by decide) (br_f (by decide) (br_f (by decide) (br_t (by decide) (br_f (by decide) (br_t (by decide) ⟨rfl, i_mk G⟩)))))
    · subst e
      exact br_f (by decide) (br_f (by decide) (br_f (by decide) (br_f (by decide) (br_t (by decide) (br_f (by decide) (br_f (by decide) (br_t (by decide) ⟨rfl, i_mk G⟩)))))))
end
