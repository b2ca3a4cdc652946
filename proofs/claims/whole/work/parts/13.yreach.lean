theorem ys_out {post : Int32 → Prop} {x : Int32} (N : Nat) (hN : N < 2 ^ 31) (h1 : (∀ j, j < N → ¬ x = nI j) → post 1) (h0 : ∀ j, j < N → x = nI j → post 0) : wpY_out post x (nI N) := by
  rcases pk_ix x (n := N) hN with h | h | ⟨j, hj, e⟩
  · refine br_t h (h1 (fun j hj e => ?_))
    rw [e] at h
    exact nI_pos (by omega) h
  · have h2 : ¬ x < 0 := fun z => nI_pos (n := N) hN (Int32.lt_of_le_of_lt h z)
    refine br_f h2 (br_f (Int32.not_lt.mpr h) (h1 (fun j hj e => ?_)))
    rw [e] at h
    exact nI_ge hj hN h
  · subst e
    exact br_f (nI_pos (by omega)) (br_t (nI_lt hj hN) (h0 j hj rfl))
theorem ys_has {A B : Prop} {s : Int32} {i : Nat} (hi : i < 32) (h0 : ¬ bt s i = true → A) (h1 : bt s i = true → B) : (((s >>> (nI i &&& 31)) &&& 1) = 0 → A) ∧ (¬ ((s >>> (nI i &&& 31)) &&& 1) = 0 → B) := by
  by_cases z : bt s i = false
  · exact br_t ((fa_t s hi).mpr z) (h0 (by rw [z]; exact Bool.false_ne_true))
  · exact br_f (fun q => z ((fa_t s hi).mp q)) (h1 (xs_t z))
/-- MET and DOMINATES, as the reference holds them -/
def ys_dom (n : Nat) (kd th el : Nat → Int32) (ym : Int32) (ru : Nat → Int32) : Prop :=
  (∀ i, bt ym i = true ↔ fd_M (fe_E n kd th el) (fe_st n) i) ∧ (∀ x, x < n → ∀ i, bt (ru x) i = true ↔ fd_D (fe_E n kd th el) (fe_st n) x i)
section
variable {n k : Nat} {ym yr yb yl : Int32} {sz kd ev th el op rs fi se us f1 f2 yv nd ru eg yo yw : Nat → Int32} {yg nw : Nat → Int64}
theorem ys_nxt (ok : fe_ok n kd th el) (rl : fe_rl n kd ev th el us f1 f2) {post : Int32 → Prop} {x : Nat} (hx : x < n) (hp : ∀ r, (∀ i, bt r i = true ↔ (fe_E n kd th el) x i) → post r) : wpY_next post ((nI n), (nI k), ym, yr, yb, yl, sz, op, rs, fi, se, kd, us, f1, f2, yv, nd, ru, eg, yg, nw, yo, yw) (nI x) := by
  have hn := ok.1
  have c : (nI x).toNatClampNeg = x := nI_clamp (by omega)
  have vi : vp_in (nI x) 16 := vp_in_nI (by omega) (by omega)
  have q := rl x hx
  refine fe_cs ok hx (fun k0 => ?_) (fun t k1 _ ht e1 => ?_) (fun t t' k2 _ ht e1 _ ht' e2 => ?_)
  · exact ⟨vi, br_t (by rw [c]; exact k0) (hp 0 (fun i => ⟨fun z => absurd z (sl_no i), fun z => absurd z (fe_E0 hx k0)⟩))⟩
  · refine ⟨vi, br_f (by rw [c, k1]; decide) ⟨vi, br_t (by rw [c]; exact k1) ⟨vi, hp _ (fun i => ?_)⟩⟩⟩
    rw [c, q.2.2.1 (by rw [k1]; decide), e1, sl_sg (by omega), fe_E1 hx k1 e1 (by omega)]
  · refine ⟨vi, br_f (by rw [c, k2]; decide) ⟨vi, br_f (by rw [c, k2]; decide) ⟨vi, vi, hp _ (fun i => ?_)⟩⟩⟩
    rw [c, q.2.2.1 (by rw [k2]; decide), q.2.2.2 k2, e1, e2, sl_or, sl_sg (by omega), sl_sg (by omega), fe_E2 hx k2 e1 (by omega) e2 (by omega)]
theorem ys_com (ok : fe_ok n kd th el) (rl : fe_rl n kd ev th el us f1 f2) {post : Int32 → Prop} {fm w : Int32} {st av : Nat → Prop} (hf : ∀ i, bt fm i = true ↔ st i)
    (hw : (w < 0 ∧ ∀ i, ¬ av i) ∨ (∃ a, a < 16 ∧ w = nI a ∧ ∀ i, av i ↔ i = a)) (hp : ∀ r, (∀ i, bt r i = true ↔ fr_R (fe_E n kd th el) st av i) → post r) : wpY_come post ((nI n), (nI k), ym, yr, yb, yl, sz, op, rs, fi, se, kd, us, f1, f2, yv, nd, ru, eg, yg, nw, yo, yw) fm w := by
  have hn := ok.1
  have L2 : ∀ (J : Int32 → Int32 → Prop) (s0 : Int32), (∀ i, bt s0 i = true → ¬ av i) → (∀ f, fr_rd (fe_E n kd th el) av s0 f → J f s0) →
      ∀ m j f, j ≤ n → n - j < m → sl_in (fun i => bt s0 i = true) (fun x i => bt s0 x = true ∧ (fe_E n kd th el) x i) j f → wY_come_31 post J w s0 (nI n) (nI k) ym yr yb yl sz op rs fi se kd us f1 f2 yv nd ru eg yg nw yo yw m f (nI j) := by
    intro J s0 h0 hJ m
    induction m with
    | zero => intro j f _ h; omega
    | succ m ih =>
      intro j f hj hm hi
      by_cases e : j = n
      · subst e
        have hi2 := sl_e hi (fun x i g => g.2.1)
        refine br_t (Int32.le_refl _) ?_
        rcases hw with ⟨h1, h2⟩ | ⟨a, h1, h2, h3⟩
        · refine br_t h1 (hJ f (fun i => ?_))
          rw [hi2 i]
          exact or_congr Iff.rfl ⟨fun z => ⟨z, h2 i⟩, fun z => z.1⟩
        · subst h2
          refine br_f (nI_pos (by omega)) ?_
          intro y ey
          refine hJ y (fun i => ?_)
          rw [ey, sl_df, hi2 i, sl_sg (by omega), h3 i]
          constructor
          · rintro ⟨z | z, q⟩
            · exact Or.inl z
            · exact Or.inr ⟨z, q⟩
          · rintro (z | ⟨z, q⟩)
            · exact ⟨Or.inl z, fun q => h0 i z ((h3 i).mpr q)⟩
            · exact ⟨Or.inr z, q⟩
      · refine br_f (nI_ge (by omega) (by omega)) (ys_has (by omega) (fun z => nm_r (nI_1 j) (ih (j + 1) f (by omega) (by omega) (sl_n hi (fun i g => z g.1)))) (fun z => ?_))
        refine ys_nxt ok rl (by omega) (fun r hr => ?_)
        intro y ey
        refine nm_r (nI_1 j) (ih (j + 1) y (by omega) (by omega) (sl_1 hi (fun i => ?_)))
        rw [ey, sl_or, hr i]
        exact or_congr Iff.rfl ⟨fun g => ⟨z, g⟩, fun g => g.2⟩
  have L : ∀ m s s0, fy_in (fe_E n kd th el) st av s s0 → 32 - fa_cn (bt s0) 32 < m → wY_come_19 post w (nI n) (nI k) ym yr yb yl sz op rs fi se kd us f1 f2 yv nd ru eg yg nw yo yw m s s0 := by
    intro m
    induction m with
    | zero => intro s s0 _ h; omega
    | succ m ih =>
      intro s s0 hi hm
      by_cases e : s = s0
      · subst e
        exact br_t rfl (hp s (fy_e hi))
      · refine br_f e ⟨n + 1, L2 _ s (fun i z => fr_na (hi.1 i z)) (fun f hr => ?_) (n + 1) 0 s (by omega) (by omega) (sl_0 (fun i => Iff.rfl))⟩
        have := fy_mu hi e
        exact ih f s (fy_1 hi hr) (by omega)
  rcases hw with ⟨h1, h2⟩ | ⟨a, h1, h2, h3⟩
  · refine br_f (Int32.not_le.mpr h1) ⟨33, L 33 fm 0 (fy_0 (fun i => ?_)) (by omega)⟩
    rw [hf i]
    exact ⟨fun z => ⟨z, h2 i⟩, fun z => z.1⟩
  · refine br_t (by rw [h2]; exact nI_pos' (by omega)) ?_
    intro y ey
    refine ⟨33, L 33 y 0 (fy_0 (fun i => ?_)) (by omega)⟩
    rw [ey, h2, sl_df, hf i, sl_sg (by omega), h3 i]
theorem ys_lok (ok : fe_ok n kd th el) (rl : fe_rl n kd ev th el us f1 f2) {post : SY → Prop} (hp : ∀ ym' ru', ys_dom n kd th el ym' ru' → post ((nI n), (nI k), ym', yr, yb, yl, sz, op, rs, fi, se, kd, us, f1, f2, yv, nd, ru', eg, yg, nw, yo, yw)) : wpY_look post ((nI n), (nI k), ym, yr, yb, yl, sz, op, rs, fi, se, kd, us, f1, f2, yv, nd, ru, eg, yg, nw, yo, yw) := by
  have hn := ok.1
  have L : ∀ ym', (∀ i, bt ym' i = true ↔ fd_M (fe_E n kd th el) (fe_st n) i) → ∀ m x ru', x ≤ n → n - x < m → (∀ z, z < x → ∀ i, bt (ru' z) i = true ↔ fd_D (fe_E n kd th el) (fe_st n) z i) →
      wY_look_23 post (nI n) (nI k) ym' yr yb yl m (nI x) sz op rs fi se kd us f1 f2 yv nd ru' eg yg nw yo yw := by
    intro ym' hm m
    induction m with
    | zero => intro j f _ h; omega
    | succ m ih =>
      intro x ru' hx hmm h1
      by_cases e : x = n
      · subst e
        exact br_t (Int32.le_refl _) (hp ym' ru' ⟨hm, h1⟩)
      · have c : (nI x).toNatClampNeg = x := nI_clamp (by omega)
        have vi : vp_in (nI x) 16 := vp_in_nI (by omega) (by omega)
        have key : ∀ w : Int32, (∀ i, bt w i = true ↔ fd_D (fe_E n kd th el) (fe_st n) x i) → ∀ y, y = upd ru' (nI x).toNatClampNeg w → wY_look_23 post (nI n) (nI k) ym' yr yb yl m (nI (x + 1)) sz op rs fi se kd us f1 f2 yv nd y eg yg nw yo yw := by
          intro w hw y ey
          rw [c] at ey
          subst ey
          refine ih (x + 1) _ (by omega) (by omega) (fun z hz i => ?_)
          by_cases ez : z = x
          · subst ez; rw [pk_us]; exact hw i
          · rw [pk_un ez]; exact h1 z (by omega) i
        refine br_f (nI_ge (by omega) (by omega)) (ys_com ok rl (st := fe_st n) (av := fun z => z = x) (fun i => ?_) (Or.inr ⟨x, by omega, rfl, fun i => Iff.rfl⟩) (fun r hr => ?_))
        · rw [sl_b1]
          exact ⟨fun z => ⟨z, by omega⟩, fun z => z.1⟩
        · refine ys_has (by omega) (fun z => ⟨vi, fun y ey => nm_r (nI_1 x) (key 0 (fun i => ⟨fun q => absurd q (sl_no i), fun q => absurd ((hm x).mpr q.1) z⟩) y ey)⟩) (fun z => ⟨vi, fun y ey => nm_r (nI_1 x) (key (ym' &&& (r ^^^ (-1))) (fun i => ?_) y ey)⟩)
          rw [sl_df, hm i, hr i]
          exact ⟨fun q => ⟨(hm x).mp z, q.1, q.2⟩, fun q => ⟨q.2.1, q.2.2⟩⟩
  by_cases e : n = 0
  · subst e
    refine br_t rfl ⟨1, L 0 (fun i => ⟨fun z => absurd z (sl_no i), fun z => ?_⟩) 1 0 ru (by omega) (by omega) (fun z hz => absurd hz (Nat.not_lt_zero z))⟩
    exact absurd (fr_i (P := fun _ => False) (fun x h _ => absurd h.2 (Nat.lt_irrefl 0)) (fun _ _ _ p _ _ => p) z) id
  · refine br_f (nI_ne0 (by omega) (by omega)) (ys_com ok rl (st := fe_st n) (av := fun _ => False) (fun i => ?_) (Or.inl ⟨by decide, fun _ z => z⟩) (fun r hr => ?_))
    · rw [sl_b1]
      exact ⟨fun z => ⟨z, by omega⟩, fun z => z.1⟩
    · exact ⟨n + 1, L r hr (n + 1) 0 ru (by omega) (by omega) (fun z hz => absurd hz (Nat.not_lt_zero z))⟩
theorem ys_is (ok : fe_ok n kd th el) (hd : ys_dom n kd th el ym ru) {post : Int32 → Prop} {a b : Int32} (h0 : ¬ (∃ x y, x < n ∧ y < n ∧ a = nI x ∧ b = nI y ∧ fd_D (fe_E n kd th el) (fe_st n) x y) → post 0)
    (h1 : ∀ x y, x < n → y < n → a = nI x → b = nI y → fd_D (fe_E n kd th el) (fe_st n) x y → post 1) : wpY_is post ((nI n), (nI k), ym, yr, yb, yl, sz, op, rs, fi, se, kd, us, f1, f2, yv, nd, ru, eg, yg, nw, yo, yw) a b := by
  unfold wpY_is
  have hn := ok.1
  refine ys_out n (by omega) (fun z => br_f (by decide) (h0 (fun ⟨x, y, lx, ly, ex, ey, _⟩ => z x lx ex))) (fun x lx ex => br_t rfl ?_)
  refine ys_out n (by omega) (fun z => br_f (by decide) (h0 (fun ⟨x, y, lx, ly, ex, ey, _⟩ => z y ly ey))) (fun y ly ey => br_t rfl ?_)
  subst ex
  subst ey
  have c : (nI x).toNatClampNeg = x := nI_clamp (by omega)
  refine ⟨vp_in_nI (by omega) (by omega), ys_has (by omega) (fun z => h0 (fun ⟨x', y', lx', ly', ex', ey', q⟩ => z ?_)) (fun z => h1 x y lx ly rfl rfl ?_)⟩
  · rw [c, hd.2 x lx, (nI_eq (by omega) (by omega)).mp ex', (nI_eq (by omega) (by omega)).mp ey']
    exact q
  · rw [c, hd.2 x lx] at z
    exact z
theorem ys_isN (ok : fe_ok n kd th el) (hd : ys_dom n kd th el ym ru) {post : Int32 → Prop} {x y : Nat} (hx : x < n) (hy : y < n) (h0 : ¬ fd_D (fe_E n kd th el) (fe_st n) x y → post 0) (h1 : fd_D (fe_E n kd th el) (fe_st n) x y → post 1) : wpY_is post ((nI n), (nI k), ym, yr, yb, yl, sz, op, rs, fi, se, kd, us, f1, f2, yv, nd, ru, eg, yg, nw, yo, yw) (nI x) (nI y) := by
  have hn := ok.1
  refine ys_is ok hd (fun z => h0 (fun q => z ⟨x, y, hx, hy, rfl, rfl, q⟩)) (fun x' y' lx' ly' ex' ey' q => h1 ?_)
  rw [(nI_eq (by omega) (by omega)).mp ex', (nI_eq (by omega) (by omega)).mp ey']
  exact q
theorem ys_par0 {post : Int32 → SY → Prop} {J : Int32 → Prop} {v1 : Int32} {x m : Nat} {y : Int32} (hJ : J (nI (x + 1))) : wY_parent_37 post J v1 (nI x) (nI n) (nI k) ym yr yb yl sz op rs fi se kd us f1 f2 yv nd ru eg yg nw yo yw (m + 1) 0 y :=
  br_c (fun _ => br_t rfl (nm_r (nI_1 x) hJ)) (fun _ => br_t rfl (br_t rfl (nm_r (nI_1 x) hJ)))
theorem ys_par (ok : fe_ok n kd th el) (rl : fe_rl n kd ev th el us f1 f2) {post : Int32 → SY → Prop} {b : Nat} {r : Int32} (hb : b < n) (hr : fd_P (fe_E n kd th el) (fe_st n) b r) (hp : ∀ ym' ru', post r ((nI n), (nI k), ym', yr, yb, yl, sz, op, rs, fi, se, kd, us, f1, f2, yv, nd, ru', eg, yg, nw, yo, yw)) : wpY_parent post ((nI n), (nI k), ym, yr, yb, yl, sz, op, rs, fi, se, kd, us, f1, f2, yv, nd, ru, eg, yg, nw, yo, yw) (nI b) := by
  unfold wpY_parent
  have hn := ok.1
  refine ys_lok ok rl (fun ym' ru' hd => ?_)
  rcases hr with ⟨er, hr⟩ | ⟨c, er, nc, dc, hc⟩
  · have L : ∀ m x, x ≤ n → n - x < m → wY_parent_6 post (nI b) (nI n) (nI k) ym' yr yb yl sz op rs fi se kd us f1 f2 yv nd ru' eg yg nw yo yw m (nI x) := by
      intro m
      induction m with
      | zero => intro x _ h; omega
      | succ m ih =>
        intro x hx hm
        by_cases e : x = n
        · subst e
          refine br_t (Int32.le_refl _) ?_
          rw [← er]
          exact hp ym' ru'
        · refine br_f (nI_ge (by omega) (by omega)) ?_
          by_cases eb : x = b
          · exact br_t (by rw [eb]) ⟨1, ys_par0 (ih (x + 1) (by omega) (by omega))⟩
          · refine br_f (fun z => eb ((nI_eq (by omega) (by omega)).mp z)) (ys_isN ok hd (by omega) hb (fun _ => br_t rfl ⟨1, ys_par0 (ih (x + 1) (by omega) (by omega))⟩) (fun z => absurd z (hr x eb)))
    exact ⟨n + 1, L (n + 1) 0 (by omega) (by omega)⟩
  · subst er
    have lc : c < n := fe_Mn ok dc.1
    have LA : ∀ (J : Int32 → Prop) x, x < n → ¬ x = c → J (nI (x + 1)) → fd_D (fe_E n kd th el) (fe_st n) x b → ¬ x = b → ∀ m y, y ≤ c → n - y < m → wY_parent_37 post J (nI b) (nI x) (nI n) (nI k) ym' yr yb yl sz op rs fi se kd us f1 f2 yv nd ru' eg yg nw yo yw (m + 1) 1 (nI y) := by
      intro J x lx nx hJ dx nb m
      induction m with
      | zero => intro y _ h; omega
      | succ m ih =>
        intro y hy hm
        refine br_f (nI_ge (by omega) (by omega)) (br_f (by decide) ?_)
        by_cases eb : y = b
        · refine br_t (by rw [eb]) (nm_r (nI_1 y) (ih (y + 1) ?_ (by omega)))
          have : ¬ y = c := fun z => nc (z.symm.trans eb)
          omega
        · refine br_f (fun z => eb ((nI_eq (by omega) (by omega)).mp z)) (ys_isN ok hd (by omega) hb (fun z => br_t rfl (nm_r (nI_1 y) (ih (y + 1) ?_ (by omega)))) (fun z => br_f (by decide) ?_))
          · have : ¬ y = c := fun q => z (by rw [q]; exact dc)
            omega
          · refine ys_isN ok hd (by omega) lx (fun q => nm_r (nI_1 y) (ys_par0 hJ)) (fun q => nm_r (nI_1 y) (ih (y + 1) ?_ (by omega)))
            have : ¬ y = c := fun w => nx (fd_as (hc x nb dx) (by rw [← w]; exact q))
            omega
    have LB : ∀ (J : Int32 → Prop), ∀ m y, y ≤ n → n - y < m → wY_parent_37 post J (nI b) (nI c) (nI n) (nI k) ym' yr yb yl sz op rs fi se kd us f1 f2 yv nd ru' eg yg nw yo yw m 1 (nI y) := by
      intro J m
      induction m with
      | zero => intro y _ h; omega
      | succ m ih =>
        intro y hy hm
        by_cases e : y = n
        · subst e
          exact br_t (Int32.le_refl _) (br_f (by decide) (hp ym' ru'))
        · refine br_f (nI_ge (by omega) (by omega)) (br_f (by decide) ?_)
          by_cases eb : y = b
          · exact br_t (by rw [eb]) (nm_r (nI_1 y) (ih (y + 1) (by omega) (by omega)))
          · refine br_f (fun z => eb ((nI_eq (by omega) (by omega)).mp z)) (ys_isN ok hd (by omega) hb (fun z => br_t rfl (nm_r (nI_1 y) (ih (y + 1) (by omega) (by omega)))) (fun z => br_f (by decide) ?_))
            exact ys_isN ok hd (by omega) lc (fun q => absurd (hc y eb z) q) (fun q => nm_r (nI_1 y) (ih (y + 1) (by omega) (by omega)))
    have L : ∀ m x, x ≤ c → n - x < m → wY_parent_6 post (nI b) (nI n) (nI k) ym' yr yb yl sz op rs fi se kd us f1 f2 yv nd ru' eg yg nw yo yw m (nI x) := by
      intro m
      induction m with
      | zero => intro x _ h; omega
      | succ m ih =>
        intro x hx hm
        refine br_f (nI_ge (by omega) (by omega)) ?_
        by_cases eb : x = b
        · have : ¬ x = c := fun z => nc (z.symm.trans eb)
          exact br_t (by rw [eb]) ⟨1, ys_par0 (ih (x + 1) (by omega) (by omega))⟩
        · refine br_f (fun z => eb ((nI_eq (by omega) (by omega)).mp z)) (ys_isN ok hd (by omega) hb (fun z => br_t rfl ⟨1, ys_par0 (ih (x + 1) ?_ (by omega))⟩) (fun z => br_f (by decide) ?_))
          · have : ¬ x = c := fun q => z (by rw [q]; exact dc)
            omega
          · by_cases ec : x = c
            · rw [ec]
              exact ⟨n + 1, LB _ (n + 1) 0 (by omega) (by omega)⟩
            · exact ⟨n + 2, LA _ x (by omega) ec (ih (x + 1) (by omega) (by omega)) z eb (n + 1) 0 (by omega) (by omega)⟩
    exact ⟨n + 1, L (n + 1) 0 (by omega) (by omega)⟩
theorem ys_parO (ok : fe_ok n kd th el) (rl : fe_rl n kd ev th el us f1 f2) {post : Int32 → SY → Prop} {v1 : Int32} (hv : ∀ j, j < n → ¬ v1 = nI j) (hp : ∀ ym' ru', post (-1) ((nI n), (nI k), ym', yr, yb, yl, sz, op, rs, fi, se, kd, us, f1, f2, yv, nd, ru', eg, yg, nw, yo, yw)) : wpY_parent post ((nI n), (nI k), ym, yr, yb, yl, sz, op, rs, fi, se, kd, us, f1, f2, yv, nd, ru, eg, yg, nw, yo, yw) v1 := by
  unfold wpY_parent
  have hn := ok.1
  refine ys_lok ok rl (fun ym' ru' hd => ?_)
  have L : ∀ m x, x ≤ n → n - x < m → wY_parent_6 post v1 (nI n) (nI k) ym' yr yb yl sz op rs fi se kd us f1 f2 yv nd ru' eg yg nw yo yw m (nI x) := by
    intro m
    induction m with
    | zero => intro x _ h; omega
    | succ m ih =>
      intro x hx hm
      by_cases e : x = n
      · subst e
        exact br_t (Int32.le_refl _) (hp ym' ru')
      · exact br_f (nI_ge (by omega) (by omega)) (br_f (fun z => hv x (by omega) z.symm) (ys_is ok hd (fun _ => br_t rfl ⟨1, ys_par0 (ih (x + 1) (by omega) (by omega))⟩) (fun x' y' _ ly _ ey _ => absurd ey (hv y' ly))))
  exact ⟨n + 1, L (n + 1) 0 (by omega) (by omega)⟩
theorem ys_dms (ok : fe_ok n kd th el) (rl : fe_rl n kd ev th el us f1 f2) {post : Int32 → SY → Prop} {v1 v2 : Int32} (h0 : ∀ ym' ru', ¬ (∃ a b, a < n ∧ b < n ∧ v1 = nI a ∧ v2 = nI b ∧ fd_D (fe_E n kd th el) (fe_st n) a b) → post 0 ((nI n), (nI k), ym', yr, yb, yl, sz, op, rs, fi, se, kd, us, f1, f2, yv, nd, ru', eg, yg, nw, yo, yw))
    (h1 : ∀ ym' ru', (∃ a b, a < n ∧ b < n ∧ v1 = nI a ∧ v2 = nI b ∧ fd_D (fe_E n kd th el) (fe_st n) a b) → post 1 ((nI n), (nI k), ym', yr, yb, yl, sz, op, rs, fi, se, kd, us, f1, f2, yv, nd, ru', eg, yg, nw, yo, yw)) : wpY_dominates post ((nI n), (nI k), ym, yr, yb, yl, sz, op, rs, fi, se, kd, us, f1, f2, yv, nd, ru, eg, yg, nw, yo, yw) v1 v2 := by
  unfold wpY_dominates
  exact ys_lok ok rl (fun ym' ru' hd => ys_is ok hd (fun z => ⟨rfl, h0 ym' ru' z⟩) (fun x y lx ly ex ey q => ⟨rfl, h1 ym' ru' ⟨x, y, lx, ly, ex, ey, q⟩⟩))
end
