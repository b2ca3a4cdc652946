theorem fl_ub {L : Nat → Int32} {b : Nat} {x : Int32} (h : x = L b) : upd L b x = L := by
  funext j
  unfold upd
  split
  · next e => rw [e, h]
  · rfl
def fl_le (n : Nat) (L M : Nat → Int32) : Prop := ∀ b, b < n → fa_sb (L b) (M b)
/-- the rule W is monotone -/
def fl_mo (n : Nat) (W : (Nat → Int32) → Nat → Int32) : Prop := ∀ L M, fl_le n L M → ∀ b, b < n → fa_sb (W L b) (W M b)
/-- below all that W keeps -/
def fl_lo (n : Nat) (W : (Nat → Int32) → Nat → Int32) (L : Nat → Int32) : Prop := ∀ M, (∀ b, b < n → fa_sb (W M b) (M b)) → fl_le n L M
def fl_up (n : Nat) (W : (Nat → Int32) → Nat → Int32) (L : Nat → Int32) : Prop := ∀ b, b < n → fa_sb (L b) (W L b)
/-- the least solution -/
def fl_ls (n : Nat) (W : (Nat → Int32) → Nat → Int32) (L : Nat → Int32) : Prop := (∀ b, b < n → W L b = L b) ∧ fl_lo n W L
theorem fl_uq {n : Nat} {W : (Nat → Int32) → Nat → Int32} {L M : Nat → Int32} (h : fl_ls n W L) (h' : fl_ls n W M) : ∀ b, b < n → L b = M b := by
  intro b hb
  refine fa_sb_a ?_ ?_
  · exact h.2 M (fun c hc => by rw [h'.1 c hc]; exact fa_sb_r _) b hb
  · exact h'.2 L (fun c hc => by rw [h.1 c hc]; exact fa_sb_r _) b hb
theorem fl_0 {n : Nat} {W : (Nat → Int32) → Nat → Int32} : fl_lo n W (fun _ => 0) ∧ fl_up n W (fun _ => 0) := by
  have h : ∀ w : Int32, fa_sb 0 w := by
    intro w i hi
    rw [b_0] at hi
    exact absurd hi Bool.false_ne_true
  exact ⟨fun M _ b _ => h _, fun b _ => h _⟩
theorem fl_leU {n : Nat} {W : (Nat → Int32) → Nat → Int32} {L : Nat → Int32} (hu : fl_up n W L) {b : Nat} (hb : b < n) : fl_le n L (upd L b (W L b)) := by
  intro c hc
  unfold upd
  split
  · next e => rw [e]; exact hu b hb
  · exact fa_sb_r _
theorem fl_st {n : Nat} {W : (Nat → Int32) → Nat → Int32} {L : Nat → Int32} (hm : fl_mo n W) (hl : fl_lo n W L) (hu : fl_up n W L) {b : Nat} (hb : b < n) :
    fl_lo n W (upd L b (W L b)) ∧ fl_up n W (upd L b (W L b)) := by
  have h1 := fl_leU hu hb
  constructor
  · intro M hM c hc
    unfold upd
    split
    · next e =>
      rw [e]
      exact fa_sb_t (hm L M (hl M hM) b hb) (hM b hb)
    · exact hl M hM c hc
  · intro c hc
    have h2 := hm L _ h1 c hc
    by_cases e : c = b
    · rw [e] at h2 ⊢
      have h3 : upd L b (W L b) b = W L b := by unfold upd; rw [if_pos rfl]
      rw [h3]
      exact h2
    · have h3 : upd L b (W L b) c = L c := by unfold upd; rw [if_neg e]
      rw [h3]
      exact fa_sb_t (hu c hc) h2
def fl_su (L : Nat → Int32) : Nat → Nat
  | 0 => 0
  | n + 1 => fl_su L n + fa_cn (bt (L n)) 32
theorem fl_su_b (L : Nat → Int32) : ∀ n, fl_su L n ≤ 32 * n
  | 0 => by unfold fl_su; omega
  | n + 1 => by
    have h1 := fl_su_b L n
    have h2 := fa_cn_le (bt (L n)) 32
    unfold fl_su
    omega
theorem fl_su_m {L M : Nat → Int32} : ∀ n, fl_le n L M → fl_su L n ≤ fl_su M n
  | 0, _ => Nat.le_refl _
  | n + 1, h => by
    have h1 := fl_su_m n (fun b hb => h b (by omega))
    have h2 := fa_cn_mo (h n (by omega)) 32
    unfold fl_su
    omega
theorem fl_su_l {L M : Nat → Int32} {b : Nat} (e : ¬ M b = L b) : ∀ n, b < n → fl_le n L M → fl_su L n < fl_su M n
  | 0, hb, _ => absurd hb (Nat.not_lt_zero b)
  | n + 1, hb, h => by
    have h0 : fl_le n L M := fun c hc => h c (by omega)
    have h1 := fl_su_m n h0
    have h2 := fa_cn_mo (h n (by omega)) 32
    unfold fl_su
    by_cases z : b = n
    · have h3 := fa_nu_lt (h b hb) e
      rw [z] at h3
      omega
    · have h3 := fl_su_l e n (by omega) h0
      omega
/-- in the midst of a round: D are the blocks that have had their turn -/
def fl_in (n : Nat) (W : (Nat → Int32) → Nat → Int32) (L0 : Nat → Int32) (D : Nat → Prop) (L : Nat → Int32) (ch : Prop) : Prop :=
  fl_lo n W L ∧ fl_up n W L ∧ fl_le n L0 L ∧ (ch → fl_su L0 n < fl_su L n) ∧ (¬ ch → L = L0 ∧ ∀ b, b < n → D b → W L0 b = L0 b)
theorem fl_in0 {n : Nat} {W : (Nat → Int32) → Nat → Int32} {L : Nat → Int32} {D : Nat → Prop} {ch : Prop} (hl : fl_lo n W L) (hu : fl_up n W L) (hc : ¬ ch) (hD : ∀ b, b < n → ¬ D b) : fl_in n W L D L ch :=
  ⟨hl, hu, fun _ _ => fa_sb_r _, fun z => absurd z hc, fun _ => ⟨rfl, fun b hb z => absurd z (hD b hb)⟩⟩
theorem fl_in1 {n : Nat} {W : (Nat → Int32) → Nat → Int32} {L0 L : Nat → Int32} {D D' : Nat → Prop} {ch ch' : Prop} (hm : fl_mo n W) (h : fl_in n W L0 D L ch) {b : Nat} (hb : b < n)
    (hD : ∀ c, D' c → c < n → D c ∨ c = b) (hc : ch' ↔ ch ∨ ¬ W L b = L b) : fl_in n W L0 D' (upd L b (W L b)) ch' := by
  obtain ⟨h1, h2, h3, h4, h5⟩ := h
  have h6 := fl_st hm h1 h2 hb
  have h7 := fl_leU h2 hb
  have h8 : fl_le n L0 (upd L b (W L b)) := fun c hc => fa_sb_t (h3 c hc) (h7 c hc)
  refine ⟨h6.1, h6.2, h8, ?_, ?_⟩
  · intro z
    rcases hc.mp z with z | z
    · have := h4 z
      have := fl_su_m n h7
      omega
    · have h9 := fl_su_m n h3
      have h10 : fl_su L n < fl_su (upd L b (W L b)) n := by
        refine fl_su_l (b := b) ?_ n hb h7
        unfold upd
        rw [if_pos rfl]
        exact z
      omega
  · intro z
    have z1 : ¬ ch := fun y => z (hc.mpr (Or.inl y))
    have z2 : W L b = L b := Classical.byContradiction fun y => z (hc.mpr (Or.inr y))
    obtain ⟨e, h9⟩ := h5 z1
    subst e
    refine ⟨fl_ub z2, fun c hc' hd => ?_⟩
    rcases hD c hd hc' with y | y
    · exact h9 c hc' y
    · rw [y]; exact z2
theorem fl_in2 {n : Nat} {W : (Nat → Int32) → Nat → Int32} {L0 L : Nat → Int32} {D : Nat → Prop} {ch : Prop} (h : fl_in n W L0 D L ch) (hc : ¬ ch) (hD : ∀ b, b < n → D b) : fl_ls n W L := by
  obtain ⟨h1, _, _, _, h5⟩ := h
  obtain ⟨e, h9⟩ := h5 hc
  subst e
  exact ⟨fun b hb => h9 b hb (hD b hb), h1⟩
-- The walk backwards through a block: f i is what instruction i makes of the set behind it.
def fw_d (f : Nat → Int32 → Int32) (w : Int32) (s : Nat) : Nat → Int32
  | 0 => w
  | d + 1 => f (s - 1 - d) (fw_d f w s d)
theorem fw_mo {f f' : Nat → Int32 → Int32} {w w' : Int32} {s : Nat} (h0 : fa_sb w w') : ∀ d, (∀ i, i < d → fa_sb (fw_d f w s i) (fw_d f' w' s i) → fa_sb (f (s - 1 - i) (fw_d f w s i)) (f' (s - 1 - i) (fw_d f' w' s i))) → fa_sb (fw_d f w s d) (fw_d f' w' s d)
  | 0, _ => h0
  | d + 1, h => h d (by omega) (fw_mo h0 d (fun i hi => h i (by omega)))
/-- set d goes, the used ones come -/
def fw_k (m w : Int32) : Int32 := w &&& (m ^^^ (-1))
def fw_g (m u w : Int32) : Int32 := fw_k m w ||| u
theorem fw_kb (m w : Int32) (i : Nat) : bt (fw_k m w) i = (bt w i && !(bt m i)) := fa_dif w m i
theorem fw_gb (m u w : Int32) (i : Nat) : bt (fw_g m u w) i = ((bt w i && !(bt m i)) || bt u i) := by unfold fw_g; rw [b_or, fw_kb]
theorem fw_km {m w w' : Int32} (h : fa_sb w w') : fa_sb (fw_k m w) (fw_k m w') := by
  intro i hi
  rw [fw_kb, Bool.and_eq_true] at hi ⊢
  exact ⟨h i hi.1, hi.2⟩
theorem fw_gm {m u w w' : Int32} (h : fa_sb w w') : fa_sb (fw_g m u w) (fw_g m u w') := by
  intro i hi
  rw [fw_gb, Bool.or_eq_true, Bool.and_eq_true] at hi ⊢
  exact hi.imp (fun z => ⟨h i z.1, z.2⟩) id
theorem fw_kg {m u w : Int32} : fa_sb (fw_k m w) (fw_g m u w) := by
  intro i hi
  rw [fw_gb, ← fw_kb, hi, Bool.true_or]
theorem fw_kw {m w : Int32} : fa_sb (fw_k m w) w := by
  intro i hi
  rw [fw_kb, Bool.and_eq_true] at hi
  exact hi.1
theorem fl_00 {n : Nat} {W : (Nat → Int32) → Nat → Int32} {L : Nat → Int32} (hL : ∀ b, b < n → L b = 0) : fl_lo n W L ∧ fl_up n W L := by
  have h : ∀ w : Int32, fa_sb 0 w := by
    intro w i hi
    rw [b_0] at hi
    exact absurd hi Bool.false_ne_true
  exact ⟨fun M _ b hb => by rw [hL b hb]; exact h _, fun b hb => by rw [hL b hb]; exact h _⟩
