/-- the least set that has st (but for av) and, with a block, what its edges lead to (but for av) -/
def fr_R (E : Nat → Nat → Prop) (st av : Nat → Prop) (i : Nat) : Prop :=
  ∀ S : Nat → Prop, (∀ x, st x → ¬ av x → S x) → (∀ x z, S x → E x z → ¬ av z → S z) → S i
/-- s is closed under E, but for av -/
def fr_cl (E : Nat → Nat → Prop) (av : Nat → Prop) (s : Int32) : Prop := ∀ x z, bt s x = true → E x z → ¬ av z → bt s z = true
/-- one round: what s leads to comes in -/
def fr_rd (E : Nat → Nat → Prop) (av : Nat → Prop) (s s' : Int32) : Prop := ∀ i, bt s' i = true ↔ (bt s i = true ∨ ((∃ x, bt s x = true ∧ E x i) ∧ ¬ av i))
def fr_so (E : Nat → Nat → Prop) (st av : Nat → Prop) (s : Int32) : Prop := ∀ i, bt s i = true → fr_R E st av i
def fr_sr (st av : Nat → Prop) (s : Int32) : Prop := ∀ x, st x → ¬ av x → bt s x = true
section
variable {E : Nat → Nat → Prop} {st av : Nat → Prop}
theorem fr_b {x : Nat} (h : st x) (h' : ¬ av x) : fr_R E st av x := fun _ a _ => a x h h'
theorem fr_s {x z : Nat} (h : fr_R E st av x) (e : E x z) (n : ¬ av z) : fr_R E st av z := fun S a b => b x z (h S a b) e n
theorem fr_i {P : Nat → Prop} (h0 : ∀ x, st x → ¬ av x → P x) (hs : ∀ x z, fr_R E st av x → P x → E x z → ¬ av z → P z) {i : Nat} (h : fr_R E st av i) : P i :=
  (h (fun x => fr_R E st av x ∧ P x) (fun x a b => ⟨fr_b a b, h0 x a b⟩) (fun x z a e n => ⟨fr_s a.1 e n, hs x z a.1 a.2 e n⟩)).2
theorem fr_na {i : Nat} (h : fr_R E st av i) : ¬ av i := fr_i (P := fun i => ¬ av i) (fun _ _ n => n) (fun _ _ _ _ _ n => n) h
theorem fr_lt {m : Nat} (h0 : ∀ x, st x → x < m) (hE : ∀ x z, E x z → z < m) {i : Nat} (h : fr_R E st av i) : i < m :=
  fr_i (P := fun i => i < m) (fun x a _ => h0 x a) (fun x z _ _ e _ => hE x z e) h
theorem fr_rdc {s s' : Int32} (h : fr_rd E av s s') (hc : fr_cl E av s) : s' = s := by
  apply fa_ext
  intro i
  constructor
  · intro z
    rcases (h i).mp z with y | ⟨⟨x, hx, e⟩, n⟩
    · exact y
    · exact hc x i hx e n
  · intro z
    exact (h i).mpr (Or.inl z)
theorem fr_rdn {s : Int32} (hc : ¬ fr_cl E av s) : ∃ x z, bt s x = true ∧ E x z ∧ ¬ av z ∧ bt s z = false := by
  apply Classical.byContradiction
  intro q
  apply hc
  intro x z hx e n
  cases hz : bt s z
  · exact absurd ⟨x, z, hx, e, n, hz⟩ q
  · rfl
theorem fr_rdk (hE : ∀ x z, E x z → z < 16) {s s' : Int32} (h : fr_rd E av s s') {k : Nat} (hk : fr_cl E av s ∨ k ≤ fa_cn (bt s) 16) :
    fr_cl E av s' ∨ k + 1 ≤ fa_cn (bt s') 16 := by
  by_cases hc : fr_cl E av s
  · left
    rw [fr_rdc h hc]
    exact hc
  · right
    obtain ⟨x, z, hx, e, n, hz⟩ := fr_rdn hc
    have h1 := fa_cn_lt (p := bt s) (q := bt s') (fun i hi => (h i).mpr (Or.inl hi)) hz ((h z).mpr (Or.inr ⟨⟨x, hx, e⟩, n⟩)) 16 (hE x z e)
    have h2 := hk.resolve_left hc
    omega
theorem fr_end (hE : ∀ x z, E x z → z < 16) {s : Int32} (hk : fr_cl E av s ∨ 16 ≤ fa_cn (bt s) 16) : fr_cl E av s :=
  hk.elim id (fun h _ z _ e _ => fa_cn_all 16 h z (hE _ z e))
theorem fr_so1 {s s' : Int32} (h : fr_rd E av s s') (hs : fr_so E st av s) : fr_so E st av s' := by
  intro i hi
  rcases (h i).mp hi with y | ⟨⟨x, hx, e⟩, n⟩
  · exact hs i y
  · exact fr_s (hs x hx) e n
theorem fr_sr1 {s s' : Int32} (h : fr_rd E av s s') (hs : fr_sr st av s) : fr_sr st av s' := fun x a n => (h x).mpr (Or.inl (hs x a n))
/-- a set with its start, closed, and within the least one, is the reach -/
theorem fr_fi {s : Int32} (hs : fr_so E st av s) (h0 : fr_sr st av s) (hc : fr_cl E av s) (i : Nat) : bt s i = true ↔ fr_R E st av i :=
  ⟨hs i, fun h => h (fun i => bt s i = true) h0 hc⟩
end
section
variable (E : Nat → Nat → Prop) (st : Nat → Prop)
def fd_M (i : Nat) : Prop := fr_R E st (fun _ => False) i
def fd_W (a i : Nat) : Prop := fr_R E st (fun x => x = a) i
def fd_D (a b : Nat) : Prop := fd_M E st a ∧ fd_M E st b ∧ ¬ fd_W E st a b
/-- the frontier -/
def fd_F (a i : Nat) : Prop := (∃ x, fd_D E st a x ∧ E x i) ∧ ¬ (¬ i = a ∧ fd_D E st a i)
end
section
variable {E : Nat → Nat → Prop} {st : Nat → Prop}
theorem fd_WM {a i : Nat} (h : fd_W E st a i) : fd_M E st i :=
  h (fd_M E st) (fun _ z _ => fr_b z (fun f => f)) (fun _ _ s e _ => fr_s s e (fun f => f))
theorem fd_Ms {x z : Nat} (h : fd_M E st x) (e : E x z) : fd_M E st z := fr_s h e (fun f => f)
theorem fd_Wa {a : Nat} : ¬ fd_W E st a a := fun h => fr_na h rfl
theorem fd_rf {a : Nat} (h : fd_M E st a) : fd_D E st a a := ⟨h, h, fd_Wa⟩
/-- if b isn't come to without a, then what is come to without a is come to without b -/
theorem fd_sub {a b : Nat} (h : ¬ fd_W E st a b) {i : Nat} (hi : fd_W E st a i) : fd_W E st b i := by
  refine fr_i (P := fun i => fd_W E st b i) ?_ ?_ hi
  · intro x hx ha
    have h1 : fd_W E st a x := fr_b hx ha
    refine fr_b hx ?_
    intro e
    exact h (e ▸ h1)
  · intro x z h1 h2 e ha
    have h3 : fd_W E st a z := fr_s h1 e ha
    refine fr_s h2 e ?_
    intro e2
    exact h (e2 ▸ h3)
theorem fd_tr {a b c : Nat} (h : fd_D E st a b) (h' : fd_D E st b c) : fd_D E st a c :=
  ⟨h.1, h'.2.1, fun z => h'.2.2 (fd_sub h.2.2 z)⟩
theorem fd_as {a b : Nat} (h : fd_D E st a b) (h' : fd_D E st b a) : a = b := by
  apply Classical.byContradiction
  intro ne
  have h1 : fd_W E st a a := by
    refine h.1 (fd_W E st a) ?_ ?_
    · intro x hx _
      refine fr_b hx ?_
      intro e
      have hb : fd_W E st b x := fr_b hx (fun z => ne (e.symm.trans z))
      exact h'.2.2 (e ▸ hb)
    · intro x z hx e _
      refine fr_s hx e ?_
      intro e2
      have hb : fd_W E st b z := fr_s (fd_sub h.2.2 hx) e (fun y => ne (e2.symm.trans y))
      exact h'.2.2 (e2 ▸ hb)
  exact fd_Wa h1
/-- the blocks that dominate b stand in a row -/
theorem fd_li {a c b : Nat} (h : fd_D E st a b) (h' : fd_D E st c b) : fd_D E st a c ∨ fd_D E st c a := by
  apply Classical.byContradiction
  intro ne
  have ha : fd_W E st a c := Classical.byContradiction fun z => ne (Or.inl ⟨h.1, h'.1, z⟩)
  have hc : fd_W E st c a := Classical.byContradiction fun z => ne (Or.inr ⟨h'.1, h.1, z⟩)
  have hb : fd_W E st a b ∨ fd_W E st c b := by
    refine h.2.1 (fun i => fd_W E st a i ∨ fd_W E st c i) ?_ ?_
    · intro x hx _
      by_cases e : x = a
      · exact Or.inr (e ▸ hc)
      · exact Or.inl (fr_b hx e)
    · intro x z hx e _
      rcases hx with hx | hx
      · by_cases e2 : z = a
        · exact Or.inr (e2 ▸ hc)
        · exact Or.inl (fr_s hx e e2)
      · by_cases e2 : z = c
        · exact Or.inl (e2 ▸ ha)
        · exact Or.inr (fr_s hx e e2)
  rcases hb with hb | hb
  · exact h.2.2 hb
  · exact h'.2.2 hb
/-- the nearest block that dominates b, or -1 -/
def fd_P (E : Nat → Nat → Prop) (st : Nat → Prop) (b : Nat) (r : Int32) : Prop :=
  (r = -1 ∧ ∀ a, ¬ a = b → ¬ fd_D E st a b) ∨ (∃ c, r = nI c ∧ ¬ c = b ∧ fd_D E st c b ∧ ∀ a, ¬ a = b → fd_D E st a b → fd_D E st a c)
theorem fd_Pu {b : Nat} {r r' : Int32} (h : fd_P E st b r) (h' : fd_P E st b r') : r' = r := by
  rcases h with ⟨e, h⟩ | ⟨c, e, n, d, h⟩
  · rcases h' with ⟨e', _⟩ | ⟨c', _, n', d', _⟩
    · rw [e, e']
    · exact absurd d' (h c' n')
  · rcases h' with ⟨_, h'⟩ | ⟨c', e', n', d', h'⟩
    · exact absurd d (h' c n)
    · rw [e, e', fd_as (h c' n' d') (h' c n d)]
end
section
variable {E : Nat → Nat → Prop} {T P : Nat → Prop} {h : Nat}
/-- forwards from b without the head into T, or backwards from T to b: the same (b MET and not the head) -/
theorem fr_fb (hP : ∀ x z, P x → E x z → P z) {b : Nat} (hb : P b) (hn : ¬ b = h) :
    fr_R (fun z x => E x z ∧ P x) T (fun x => x = h) b ↔ ∃ t, T t ∧ fr_R E (fun x => x = b) (fun x => x = h) t := by
  constructor
  · intro H
    have H2 : ¬ b = h ∧ ∃ t, T t ∧ fr_R E (fun x => x = b) (fun x => x = h) t := by
      refine H (fun b => ¬ b = h ∧ ∃ t, T t ∧ fr_R E (fun x => x = b) (fun x => x = h) t) ?_ ?_
      · intro x hx nx
        exact ⟨nx, x, hx, fr_b rfl nx⟩
      · intro z x hz ep nx
        obtain ⟨nz, t, ht, hr⟩ := hz
        refine ⟨nx, t, ht, ?_⟩
        refine hr (fun i => fr_R E (fun y => y = x) (fun y => y = h) i) ?_ ?_
        · intro y hy hny
          have hx0 : fr_R E (fun y => y = x) (fun y => y = h) x := fr_b rfl nx
          exact fr_s hx0 (hy ▸ ep.1) hny
        · intro y w hy ew hw
          exact fr_s hy ew hw
    exact H2.2
  · intro ⟨t, ht, hr⟩
    apply Classical.byContradiction
    intro nb
    have H : P t ∧ ¬ fr_R (fun z x => E x z ∧ P x) T (fun x => x = h) t := by
      refine fr_i (P := fun i => P i ∧ ¬ fr_R (fun z x => E x z ∧ P x) T (fun x => x = h) i) ?_ ?_ hr
      · intro x hx _
        rw [hx]
        exact ⟨hb, nb⟩
      · intro x z hx hp e _
        have nx : ¬ x = h := fr_na (av := fun x => x = h) hx
        exact ⟨hP x z hp.1 e, fun hz => hp.2 (fr_s hz ⟨e, hp.1⟩ nx)⟩
    have nt : ¬ t = h := fr_na (av := fun x => x = h) hr
    exact H.2 (fr_b ht nt)
end
-- A row of sets that are worked out anew from the last one: s' = start and what s leads to.
def fg_rs (E : Nat → Nat → Prop) (st : Nat → Prop) (s s' : Int32) : Prop := ∀ i, bt s' i = true ↔ (st i ∨ ∃ x, bt s x = true ∧ E x i)
def fg_in (E : Nat → Nat → Prop) (st : Nat → Prop) (k : Nat) (s : Int32) : Prop :=
  fr_so E st (fun _ => False) s ∧ (∀ i, bt s i = true → (st i ∨ ∃ x, bt s x = true ∧ E x i)) ∧ ((fr_sr st (fun _ => False) s ∧ fr_cl E (fun _ => False) s) ∨ k ≤ fa_cn (bt s) 16)
section
variable {E : Nat → Nat → Prop} {st : Nat → Prop}
theorem fg_0 : fg_in E st 0 0 := by
  refine ⟨fun i hi => ?_, fun i hi => ?_, Or.inr (Nat.zero_le _)⟩
  · rw [b_0] at hi; exact absurd hi Bool.false_ne_true
  · rw [b_0] at hi; exact absurd hi Bool.false_ne_true
theorem fg_1 (hS : ∀ x, st x → x < 16) (hE : ∀ x z, E x z → z < 16) {k : Nat} {s s' : Int32} (h : fg_in E st k s) (hr : fg_rs E st s s') : fg_in E st (k + 1) s' := by
  obtain ⟨h1, h2, h3⟩ := h
  have hsb : ∀ i, bt s i = true → bt s' i = true := fun i hi => (hr i).mpr (h2 i hi)
  refine ⟨?_, ?_, ?_⟩
  · intro i hi
    rcases (hr i).mp hi with y | ⟨x, hx, e⟩
    · exact fr_b y (fun f => f)
    · exact fr_s (h1 x hx) e (fun f => f)
  · intro i hi
    rcases (hr i).mp hi with y | ⟨x, hx, e⟩
    · exact Or.inl y
    · exact Or.inr ⟨x, hsb x hx, e⟩
  · by_cases hc : s' = s
    · left
      rw [hc]
      rw [hc] at hr
      exact ⟨fun x a _ => (hr x).mpr (Or.inl a), fun x z hx e _ => (hr z).mpr (Or.inr ⟨x, hx, e⟩)⟩
    · rcases h3 with h3 | h3
      · exfalso
        apply hc
        apply fa_ext
        intro i
        refine ⟨fun hi => ?_, hsb i⟩
        rcases (hr i).mp hi with y | ⟨x, hx, e⟩
        · exact h3.1 i y (fun f => f)
        · exact h3.2 x i hx e (fun f => f)
      · right
        obtain ⟨i, hi, hj⟩ := fa_df hsb hc
        have hl : i < 16 := by
          rcases (hr i).mp hj with y | ⟨x, hx, e⟩
          · exact hS i y
          · exact hE x i e
        have h4 := fa_cn_lt hsb hi hj 16 hl
        omega
theorem fg_e (hS : ∀ x, st x → x < 16) (hE : ∀ x z, E x z → z < 16) {s : Int32} (h : fg_in E st 16 s) (i : Nat) : bt s i = true ↔ fr_R E st (fun _ => False) i := by
  obtain ⟨h1, _, h3⟩ := h
  rcases h3 with h3 | h3
  · exact fr_fi h1 h3.1 h3.2 i
  · refine fr_fi h1 (fun x a _ => fa_cn_all 16 h3 x (hS x a)) (fun x z _ e _ => fa_cn_all 16 h3 z (hE x z e)) i
end
-- Rounds until nothing changes: set and what it was before.
def fy_in (E : Nat → Nat → Prop) (st av : Nat → Prop) (s s0 : Int32) : Prop :=
  fr_so E st av s ∧ fr_sr st av s ∧ fa_sb s0 s ∧ ∀ x z, bt s0 x = true → E x z → ¬ av z → bt s z = true
section
variable {E : Nat → Nat → Prop} {st av : Nat → Prop}
theorem fy_0 {s : Int32} (h : ∀ i, bt s i = true ↔ (st i ∧ ¬ av i)) : fy_in E st av s 0 := by
  refine ⟨fun i hi => fr_b ((h i).mp hi).1 ((h i).mp hi).2, fun x a n => (h x).mpr ⟨a, n⟩, fun i hi => ?_, fun x z hx => ?_⟩
  · rw [b_0] at hi; exact absurd hi Bool.false_ne_true
  · rw [b_0] at hx; exact absurd hx Bool.false_ne_true
theorem fy_e {s : Int32} (h : fy_in E st av s s) (i : Nat) : bt s i = true ↔ fr_R E st av i := fr_fi h.1 h.2.1 h.2.2.2 i
theorem fy_1 {s s0 s' : Int32} (h : fy_in E st av s s0) (hr : fr_rd E av s s') : fy_in E st av s' s :=
  ⟨fr_so1 hr h.1, fr_sr1 hr h.2.1, fun i hi => (hr i).mpr (Or.inl hi), fun x z hx e n => (hr z).mpr (Or.inr ⟨⟨x, hx, e⟩, n⟩)⟩
theorem fy_mu {s s0 : Int32} (h : fy_in E st av s s0) (e : ¬ s = s0) : 32 - fa_cn (bt s) 32 < 32 - fa_cn (bt s0) 32 := by
  have h1 := fa_nu_lt h.2.2.1 e
  have h2 := fa_cn_le (bt s) 32
  omega
end
-- Loops: x closes the loop of h; b is in the loop of h.
def fd_T (E : Nat → Nat → Prop) (st : Nat → Prop) (h x : Nat) : Prop := E x h ∧ fd_D E st h x
def fd_L (E : Nat → Nat → Prop) (st : Nat → Prop) (h b : Nat) : Prop :=
  (∃ x, fd_T E st h x) ∧ (b = h ∨ fr_R (fun z x => E x z ∧ fd_M E st x) (fd_T E st h) (fun x => x = h) b)
theorem fd_Le {E : Nat → Nat → Prop} {st : Nat → Prop} {h b : Nat} :
    ((∃ x, fd_T E st h x) ∧ fd_M E st b ∧ (b = h ∨ (∃ t, fr_R E (fun x => x = b) (fun x => x = h) t ∧ fd_T E st h t) ∨ fd_T E st h b)) ↔ fd_L E st h b := by
  constructor
  · rintro ⟨h1, h2, h3⟩
    refine ⟨h1, ?_⟩
    by_cases e : b = h
    · exact Or.inl e
    · right
      rcases h3 with h3 | ⟨t, ht, hT⟩ | h3
      · exact absurd h3 e
      · exact (fr_fb (fun x z m y => fd_Ms m y) h2 e).mpr ⟨t, hT, ht⟩
      · exact fr_b h3 e
  · rintro ⟨h1, h2⟩
    by_cases e : b = h
    · refine ⟨h1, ?_, Or.inl e⟩
      obtain ⟨x, hx⟩ := h1
      rw [e]
      exact hx.2.1
    · have h3 := h2.resolve_left e
      have h4 : fd_M E st b := fr_i (P := fun b => fd_M E st b) (fun x hx _ => hx.2.2.1) (fun z x _ _ q _ => q.2) h3
      obtain ⟨t, hT, ht⟩ := (fr_fb (fun x z m y => fd_Ms m y) h4 e).mp h3
      exact ⟨h1, h4, Or.inr (Or.inl ⟨t, ht, hT⟩)⟩
/-- where a variable's merges are: src are the blocks that set it -/
def fd_G (E : Nat → Nat → Prop) (st src : Nat → Prop) (i : Nat) : Prop := fr_R (fd_F E st) (fun z => ∃ x, src x ∧ fd_F E st x z) (fun _ => False) i
theorem fd_Ge {E : Nat → Nat → Prop} {st s1 s2 : Nat → Prop} (h : ∀ x, fd_M E st x → (s1 x ↔ s2 x)) {i : Nat} : fd_G E st s1 i ↔ fd_G E st s2 i := by
  have e : (fun z => ∃ x, s1 x ∧ fd_F E st x z) = (fun z => ∃ x, s2 x ∧ fd_F E st x z) := by
    funext z
    apply propext
    constructor
    · rintro ⟨x, hx, f⟩
      have hm : fd_M E st x := f.1.elim (fun _ hy => hy.1.1)
      exact ⟨x, (h x hm).mp hx, f⟩
    · rintro ⟨x, hx, f⟩
      have hm : fd_M E st x := f.1.elim (fun _ hy => hy.1.1)
      exact ⟨x, (h x hm).mpr hx, f⟩
  unfold fd_G
  rw [e]
