-- s b: how many instructions block b has; m b i: the bit of what instruction i of b sets; u b i: the bits that it uses; dd b i: the variable that it sets
-- ex L b: what is wanted before the exit of b, if L is wanted at the beginnings
def fn_X (dd : Nat → Nat → Nat) (m u : Nat → Nat → Int32) (b i : Nat) (w : Int32) : Int32 := if bt w (dd b i) = true then fw_g (m b i) (u b i) w else w
def fn_N (m u : Nat → Nat → Int32) (N : Nat → Int32) (b i : Nat) (w : Int32) : Int32 := if bt (N b) i = true then fw_g (m b i) (u b i) w else fw_k (m b i) w
def fn_WX (dd : Nat → Nat → Nat) (m u : Nat → Nat → Int32) (s : Nat → Nat) (ex : (Nat → Int32) → Nat → Int32) (L : Nat → Int32) (b : Nat) : Int32 := fw_d (fn_X dd m u b) (ex L b) (s b) (s b)
def fn_WN (m u : Nat → Nat → Int32) (s : Nat → Nat) (ex : (Nat → Int32) → Nat → Int32) (N L : Nat → Int32) (b : Nat) : Int32 := fw_d (fn_N m u N b) (ex L b) (s b) (s b)
section
variable {dd : Nat → Nat → Nat} {m u : Nat → Nat → Int32} {s : Nat → Nat} {ex : (Nat → Int32) → Nat → Int32} {n : Nat} {met : Nat → Prop}
/-- monotony of X's rule -/
theorem fn_Xm {b i : Nat} {w w' : Int32} (hd : ∀ j, bt (m b i) j = true ↔ j = dd b i) (h : fa_sb w w') : fa_sb (fn_X dd m u b i w) (fn_X dd m u b i w') := by
  unfold fn_X
  by_cases z : bt w (dd b i) = true
  · rw [if_pos z, if_pos (h _ z)]
    exact fw_gm h
  · rw [if_neg z]
    by_cases z' : bt w' (dd b i) = true
    · rw [if_pos z']
      intro j hj
      rw [fw_gb, Bool.or_eq_true, Bool.and_eq_true]
      refine Or.inl ⟨h j hj, ?_⟩
      cases hm : bt (m b i) j
      · rfl
      · have e := (hd j).mp hm
        rw [e] at hj
        exact absurd hj z
    · rw [if_neg z']
      exact h
theorem fn_Nm {b i : Nat} {N N' : Nat → Int32} {w w' : Int32} (hN : fa_sb (N b) (N' b)) (h : fa_sb w w') : fa_sb (fn_N m u N b i w) (fn_N m u N' b i w') := by
  unfold fn_N
  by_cases z : bt (N b) i = true
  · rw [if_pos z, if_pos (hN _ z)]
    exact fw_gm h
  · rw [if_neg z]
    by_cases z' : bt (N' b) i = true
    · rw [if_pos z']
      exact fa_sb_t (fw_km h) fw_kg
    · rw [if_neg z']
      exact fw_km h
/-- Y's walk within X's, as long as what Y holds needed is needed in X's sense -/
theorem fn_YX {b : Nat} {N : Nat → Int32} {w w' : Int32} (h0 : fa_sb w w') (hN : ∀ i, i < s b → bt (N b) i = true → bt (fw_d (fn_X dd m u b) w' (s b) (s b - 1 - i)) (dd b i) = true) :
    ∀ d, d ≤ s b → fa_sb (fw_d (fn_N m u N b) w (s b) d) (fw_d (fn_X dd m u b) w' (s b) d) := by
  intro d hd
  refine fw_mo h0 d ?_
  intro i hi h
  have e : s b - 1 - (s b - 1 - i) = i := by omega
  have hN' := hN (s b - 1 - i) (by omega)
  rw [e] at hN'
  generalize fw_d (fn_N m u N b) w (s b) i = y at h ⊢
  generalize fw_d (fn_X dd m u b) w' (s b) i = x at h hN' ⊢
  generalize s b - 1 - i = j at hN' ⊢
  unfold fn_N fn_X
  by_cases z : bt (N b) j = true
  · rw [if_pos z, if_pos (hN' z)]
    exact fw_gm h
  · rw [if_neg z]
    by_cases z' : bt x (dd b j) = true
    · rw [if_pos z']
      exact fa_sb_t (fw_km h) fw_kg
    · rw [if_neg z']
      exact fa_sb_t fw_kw h
/-- where what Y holds needed is just what is wanted behind, the two walks are one -/
theorem fn_eq {b : Nat} {N : Nat → Int32} {w : Int32} (hd : ∀ i, i < s b → ∀ j, bt (m b i) j = true ↔ j = dd b i)
    (hN : ∀ i, i < s b → (bt (N b) i = true ↔ bt (fw_d (fn_N m u N b) w (s b) (s b - 1 - i)) (dd b i) = true)) :
    ∀ d, d ≤ s b → fw_d (fn_X dd m u b) w (s b) d = fw_d (fn_N m u N b) w (s b) d := by
  intro d
  induction d with
  | zero => intro _; rfl
  | succ d ih =>
    intro hd'
    have ih := ih (by omega)
    show fn_X dd m u b (s b - 1 - d) _ = fn_N m u N b (s b - 1 - d) _
    rw [ih]
    have e : s b - 1 - (s b - 1 - d) = d := by omega
    have hN' := hN (s b - 1 - d) (by omega)
    have hd2 := hd (s b - 1 - d) (by omega)
    rw [e] at hN'
    generalize fw_d (fn_N m u N b) w (s b) d = y at hN' ⊢
    generalize s b - 1 - d = j at hN' hd2 ⊢
    unfold fn_X fn_N
    by_cases z : bt y (dd b j) = true
    · rw [if_pos z, if_pos (hN'.mpr z)]
    · rw [if_neg z, if_neg (fun q => z (hN'.mp q))]
      refine fa_sb_a (fun i hi => ?_) fw_kw
      rw [fw_kb, Bool.and_eq_true]
      refine ⟨hi, ?_⟩
      cases hm : bt (m b j) i
      · rfl
      · rw [(hd2 i).mp hm] at hi
        exact absurd hi z
theorem fn_top (w : Int32) : fa_sb w (-1) := by
  intro i hi
  by_cases h : i < 32
  · exact b_m1 i h
  · rw [b_big (by omega)] at hi
    exact absurd hi Bool.false_ne_true
/-- Y's living sets are within X's on MET blocks, while Y's needed are -/
theorem fn_le (hx : ∀ L M b, b < n → met b → (∀ c, c < n → met c → fa_sb (L c) (M c)) → fa_sb (ex L b) (ex M b))
    {LX : Nat → Int32} (hX : ∀ b, b < n → fn_WX dd m u s ex LX b = LX b) {N LY : Nat → Int32} (hY : fl_ls n (fn_WN m u s ex N) LY)
    (hN : ∀ b, b < n → met b → ∀ i, i < s b → bt (N b) i = true → bt (fw_d (fn_X dd m u b) (ex LX b) (s b) (s b - 1 - i)) (dd b i) = true) :
    ∀ b, b < n → met b → fa_sb (LY b) (LX b) := by
  intro b hb mb
  have key := hY.2 (fun b => @ite Int32 (met b) (Classical.propDecidable _) (LX b) (-1)) ?_ b hb
  · dsimp only at key
    rw [if_pos mb] at key
    exact key
  · intro c hc
    by_cases mc : met c
    · rw [if_pos mc, ← hX c hc]
      unfold fn_WN fn_WX
      refine fn_YX ?_ (hN c hc mc) (s c) (Nat.le_refl _)
      refine hx _ _ c hc mc ?_
      intro e he me
      rw [if_pos me]
      exact fa_sb_r _
    · rw [if_neg mc]
      exact fn_top _
/-- X's least sets are within Y's last ones on MET blocks -/
theorem fn_ge (hx : ∀ L M b, b < n → met b → (∀ c, c < n → met c → fa_sb (L c) (M c)) → fa_sb (ex L b) (ex M b))
    (hd : ∀ b, b < n → ∀ i, i < s b → ∀ j, bt (m b i) j = true ↔ j = dd b i)
    {LX : Nat → Int32} (hX : fl_lo n (fn_WX dd m u s ex) LX) {N LY : Nat → Int32} (hY : ∀ b, b < n → fn_WN m u s ex N LY b = LY b)
    (hN : ∀ b, b < n → met b → ∀ i, i < s b → (bt (N b) i = true ↔ bt (fw_d (fn_N m u N b) (ex LY b) (s b) (s b - 1 - i)) (dd b i) = true)) :
    ∀ b, b < n → met b → fa_sb (LX b) (LY b) := by
  intro b hb mb
  have key := hX (fun b => @ite Int32 (met b) (Classical.propDecidable _) (LY b) (-1)) ?_ b hb
  · dsimp only at key
    rw [if_pos mb] at key
    exact key
  · intro c hc
    by_cases mc : met c
    · rw [if_pos mc, ← hY c hc]
      unfold fn_WX fn_WN
      rw [← fn_eq (hd c hc) (hN c hc mc) (s c) (Nat.le_refl _)]
      refine fw_mo ?_ (s c) (fun i hi h => fn_Xm (hd c hc _ (by omega)) h)
      refine hx _ _ c hc mc ?_
      intro e he me
      rw [if_pos me]
      exact fa_sb_r _
    · rw [if_neg mc]
      exact fn_top _
/-- what Y holds needed in the end is what is wanted behind in X -/
theorem fn_fin (hx : ∀ L M b, b < n → met b → (∀ c, c < n → met c → fa_sb (L c) (M c)) → fa_sb (ex L b) (ex M b))
    (hd : ∀ b, b < n → ∀ i, i < s b → ∀ j, bt (m b i) j = true ↔ j = dd b i)
    {LX : Nat → Int32} (hX : fl_ls n (fn_WX dd m u s ex) LX) {N LY : Nat → Int32} (hY : fl_ls n (fn_WN m u s ex N) LY)
    (hN : ∀ b, b < n → met b → ∀ i, i < s b → (bt (N b) i = true ↔ bt (fw_d (fn_N m u N b) (ex LY b) (s b) (s b - 1 - i)) (dd b i) = true))
    (hN2 : ∀ b, b < n → met b → ∀ i, i < s b → bt (N b) i = true → bt (fw_d (fn_X dd m u b) (ex LX b) (s b) (s b - 1 - i)) (dd b i) = true)
    {b : Nat} (hb : b < n) (mb : met b) {i : Nat} (hi : i < s b) :
    bt (N b) i = true ↔ bt (fw_d (fn_X dd m u b) (ex LX b) (s b) (s b - 1 - i)) (dd b i) = true := by
  refine ⟨hN2 b hb mb i hi, fun h => (hN b hb mb i hi).mpr ?_⟩
  have h1 := fn_ge hx hd hX.2 hY.1 hN
  rw [← fn_eq (hd b hb) (hN b hb mb) (s b - 1 - i) (by omega)]
  refine (fw_mo (hx _ _ b hb mb h1) (s b - 1 - i) (fun j hj h => fn_Xm (hd b hb _ (by omega)) h)) _ h
/-- one round of Y's keeps within X's -/
theorem fn_rd (hx : ∀ L M b, b < n → met b → (∀ c, c < n → met c → fa_sb (L c) (M c)) → fa_sb (ex L b) (ex M b))
    {LX : Nat → Int32} (hX : ∀ b, b < n → fn_WX dd m u s ex LX b = LX b) {N LY : Nat → Int32} (hY : fl_ls n (fn_WN m u s ex N) LY)
    (hN : ∀ b, b < n → met b → ∀ i, i < s b → bt (N b) i = true → bt (fw_d (fn_X dd m u b) (ex LX b) (s b) (s b - 1 - i)) (dd b i) = true)
    {b : Nat} (hb : b < n) (mb : met b) {i : Nat} (hi : i < s b) (h : bt (fw_d (fn_N m u N b) (ex LY b) (s b) (s b - 1 - i)) (dd b i) = true) :
    bt (fw_d (fn_X dd m u b) (ex LX b) (s b) (s b - 1 - i)) (dd b i) = true :=
  fn_YX (hx _ _ b hb mb (fn_le hx hX hY hN)) (hN b hb mb) (s b - 1 - i) (by omega) _ h
/-- Y's rule grows with N, and so do its least sets and what is wanted behind -/
theorem fn_gr (hx0 : ∀ L M b, b < n → fl_le n L M → fa_sb (ex L b) (ex M b)) {N N' LY LY' : Nat → Int32} (hN : ∀ b, b < n → fa_sb (N b) (N' b))
    (hY : fl_ls n (fn_WN m u s ex N) LY) (hY' : fl_ls n (fn_WN m u s ex N') LY') : fl_le n LY LY' ∧
    ∀ b, b < n → ∀ d, fa_sb (fw_d (fn_N m u N b) (ex LY b) (s b) d) (fw_d (fn_N m u N' b) (ex LY' b) (s b) d) := by
  have h1 : fl_le n LY LY' := by
    refine hY.2 LY' ?_
    intro b hb
    have h2 : fa_sb (fn_WN m u s ex N LY' b) (fn_WN m u s ex N' LY' b) := fw_mo (fa_sb_r _) (s b) (fun i _ h => fn_Nm (hN b hb) h)
    rw [hY'.1 b hb] at h2
    exact h2
  exact ⟨h1, fun b hb d => fw_mo (hx0 _ _ b hb h1) d (fun i _ h => fn_Nm (hN b hb) h)⟩
/-- what a round finds needed in block x -/
def fn_S (dd : Nat → Nat → Nat) (m u : Nat → Nat → Int32) (s : Nat → Nat) (ex : (Nat → Int32) → Nat → Int32) (met : Nat → Prop) (N LY : Nat → Int32) (x : Nat) (c : Int32) : Prop :=
  ∀ i, bt c i = true ↔ (i < s x ∧ met x ∧ bt (fw_d (fn_N m u N x) (ex LY x) (s x) (s x - 1 - i)) (dd x i) = true)
/-- at the head of a round: N grows, and is within what X wants -/
def fn_I (dd : Nat → Nat → Nat) (m u : Nat → Nat → Int32) (s : Nat → Nat) (ex : (Nat → Int32) → Nat → Int32) (n : Nat) (met : Nat → Prop) (N : Nat → Int32) : Prop :=
  (∀ LY, fl_ls n (fn_WN m u s ex N) LY → ∀ x, x < n → ∀ c, fn_S dd m u s ex met N LY x c → fa_sb (N x) c) ∧
  (∀ x, x < n → ∀ i, bt (N x) i = true → i < s x ∧ met x) ∧
  (∀ LX, (∀ b, b < n → fn_WX dd m u s ex LX b = LX b) → ∀ b, b < n → met b → ∀ i, i < s b → bt (N b) i = true → bt (fw_d (fn_X dd m u b) (ex LX b) (s b) (s b - 1 - i)) (dd b i) = true)
theorem fn_I0 {N : Nat → Int32} (h : ∀ x, x < n → N x = 0) : fn_I dd m u s ex n met N := by
  refine ⟨fun LY _ x hx c _ i hi => ?_, fun x hx i hi => ?_, fun LX _ b hb _ i _ hi => ?_⟩
  · rw [h x hx, b_0] at hi; exact absurd hi Bool.false_ne_true
  · rw [h x hx, b_0] at hi; exact absurd hi Bool.false_ne_true
  · rw [h b hb, b_0] at hi; exact absurd hi Bool.false_ne_true
theorem fn_I1 (hx0 : ∀ L M b, b < n → fl_le n L M → fa_sb (ex L b) (ex M b))
    (hx : ∀ L M b, b < n → met b → (∀ c, c < n → met c → fa_sb (L c) (M c)) → fa_sb (ex L b) (ex M b))
    {N LY N' : Nat → Int32} (h : fn_I dd m u s ex n met N) (hY : fl_ls n (fn_WN m u s ex N) LY) (hN : ∀ x, x < n → fn_S dd m u s ex met N LY x (N' x)) : fn_I dd m u s ex n met N' := by
  obtain ⟨h1, h2, h3⟩ := h
  have hs : ∀ x, x < n → fa_sb (N x) (N' x) := fun x hx => h1 LY hY x hx (N' x) (hN x hx)
  refine ⟨?_, ?_, ?_⟩
  · intro LY' hY' x hx c hc i hi
    have g := (fn_gr hx0 hs hY hY').2 x hx
    obtain ⟨a1, a2, a3⟩ := (hN x hx i).mp hi
    exact (hc i).mpr ⟨a1, a2, g _ _ a3⟩
  · intro x hx i hi
    obtain ⟨a1, a2, _⟩ := (hN x hx i).mp hi
    exact ⟨a1, a2⟩
  · intro LX hX b hb mb i hi hb'
    obtain ⟨_, _, a3⟩ := (hN b hb i).mp hb'
    exact fn_rd hx hX hY (h3 LX hX) hb mb hi a3
/-- nothing new: what is needed is what X wants behind -/
theorem fn_I2 (hx : ∀ L M b, b < n → met b → (∀ c, c < n → met c → fa_sb (L c) (M c)) → fa_sb (ex L b) (ex M b))
    (hd : ∀ b, b < n → ∀ i, i < s b → ∀ j, bt (m b i) j = true ↔ j = dd b i)
    {N LY LX : Nat → Int32} (h : fn_I dd m u s ex n met N) (hY : fl_ls n (fn_WN m u s ex N) LY) (hN : ∀ x, x < n → fn_S dd m u s ex met N LY x (N x))
    (hX : fl_ls n (fn_WX dd m u s ex) LX) {b : Nat} (hb : b < n) (mb : met b) {i : Nat} (hi : i < s b) :
    bt (N b) i = true ↔ bt (fw_d (fn_X dd m u b) (ex LX b) (s b) (s b - 1 - i)) (dd b i) = true := by
  refine fn_fin hx hd hX hY ?_ (h.2.2 LX hX.1) hb mb hi
  intro c hc mc j hj
  refine ⟨fun z => ((hN c hc j).mp z).2.2, fun z => (hN c hc j).mpr ⟨hj, mc, z⟩⟩
end
