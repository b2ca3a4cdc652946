section
variable {n k : Nat} {ym yr yb yl : Int32} {sz kd ev th el op rs fi se us f1 f2 yv nd ru eg yo yw : Nat → Int32} {yg nw : Nat → Int64}
theorem ys_edg (ok : fe_ok n kd th el) (rl : fe_rl n kd ev th el us f1 f2) (hd : ys_dom n kd th el ym ru) {post : Int32 → Prop} {v1 : Int32}
    (hp : ∀ r, (∀ i, bt r i = true ↔ ∃ a, a < n ∧ v1 = nI a ∧ fd_F (fe_E n kd th el) (fe_st n) a i) → post r) : wpY_edge post ((nI n), (nI k), ym, yr, yb, yl, sz, op, rs, fi, se, kd, us, f1, f2, yv, nd, ru, eg, yg, nw, yo, yw) v1 := by
  have hn := ok.1
  have L2 : ∀ f0, (∀ i, bt f0 i = true ↔ ∃ x, (∃ a, a < n ∧ v1 = nI a ∧ fd_D (fe_E n kd th el) (fe_st n) a x) ∧ (fe_E n kd th el) x i) → ∀ m y f, y ≤ n → n - y < m →
      (∀ i, bt f i = true ↔ (bt f0 i = true ∧ ¬ (i < y ∧ ¬ nI i = v1 ∧ ∃ a, a < n ∧ v1 = nI a ∧ fd_D (fe_E n kd th el) (fe_st n) a i))) → wY_edge_37 post v1 (nI n) (nI k) ym yr yb yl sz op rs fi se kd us f1 f2 yv nd ru eg yg nw yo yw m f (nI y) := by
    intro f0 h0 m
    induction m with
    | zero => intro j f _ h; omega
    | succ m ih =>
      intro y f hy hm hi
      by_cases e : y = n
      · subst e
        refine br_t (Int32.le_refl _) (hp f (fun i => ?_))
        rw [hi i, h0 i]
        constructor
        · rintro ⟨⟨x, ⟨a, la, ea, da⟩, ex⟩, q⟩
          refine ⟨a, la, ea, ⟨x, da, ex⟩, fun ⟨z1, z2⟩ => q ⟨fe_El ok ex, fun z => z1 ?_, a, la, ea, z2⟩⟩
          have := fe_El ok ex
          exact (nI_eq (by omega) (by omega)).mp (z.trans ea)
        · rintro ⟨a, la, ea, ⟨x, da, ex⟩, q⟩
          refine ⟨⟨x, ⟨a, la, ea, da⟩, ex⟩, fun ⟨z1, z2, a', la', ea', da'⟩ => q ⟨fun z => z2 (by rw [z, ea]), ?_⟩⟩
          rw [← (nI_eq (by omega) (by omega)).mp (ea.symm.trans ea')] at da'
          exact da'
      · refine br_f (nI_ge (by omega) (by omega)) ?_
        by_cases eb : nI y = v1
        · refine br_t eb (nm_r (nI_1 y) (ih (y + 1) f (by omega) (by omega) (fun i => ?_)))
          rw [hi i]
          refine and_congr Iff.rfl (not_congr ⟨fun z => ⟨by omega, z.2⟩, fun z => ⟨?_, z.2⟩⟩)
          have : ¬ i = y := fun q => z.2.1 (by rw [q]; exact eb)
          omega
        · refine br_f eb (ys_is ok hd (fun z => br_t rfl (nm_r (nI_1 y) (ih (y + 1) f (by omega) (by omega) (fun i => ?_)))) (fun a y' la ly ea ey q => br_f (by decide) ?_))
          · rw [hi i]
            refine and_congr Iff.rfl (not_congr ⟨fun z => ⟨by omega, z.2⟩, fun w => ⟨?_, w.2⟩⟩)
            have : ¬ i = y := fun q => by
              obtain ⟨a, la, ea, da⟩ := w.2.2
              exact z ⟨a, y, la, by omega, ea, rfl, by rw [← q]; exact da⟩
            omega
          · intro g eg
            have ey2 := (nI_eq (by omega) (by omega)).mp ey
            subst ey2
            refine nm_r (nI_1 y) (ih (y + 1) g (by omega) (by omega) (fun i => ?_))
            rw [eg, sl_df, hi i, sl_sg (by omega)]
            constructor
            · rintro ⟨⟨z1, z2⟩, z3⟩
              exact ⟨z1, fun w => z2 ⟨by omega, w.2⟩⟩
            · rintro ⟨z1, z2⟩
              refine ⟨⟨z1, fun w => z2 ⟨by omega, w.2⟩⟩, fun z3 => z2 ⟨by omega, ?_⟩⟩
              subst z3
              exact ⟨eb, a, la, ea, q⟩
  have L : ∀ m j f, j ≤ n → n - j < m → sl_in (fun _ => False) (fun x i => (∃ a, a < n ∧ v1 = nI a ∧ fd_D (fe_E n kd th el) (fe_st n) a x) ∧ (fe_E n kd th el) x i) j f → wY_edge_4 post v1 (nI n) (nI k) ym yr yb yl sz op rs fi se kd us f1 f2 yv nd ru eg yg nw yo yw m f (nI j) := by
    intro m
    induction m with
    | zero => intro j f _ h; omega
    | succ m ih =>
      intro j f hj hm hi
      by_cases e : j = n
      · subst e
        refine br_t (Int32.le_refl _) ⟨j + 1, L2 f (fun i => ?_) (j + 1) 0 f (by omega) (by omega) (fun i => ⟨fun z => ⟨z, fun w => absurd w.1 (Nat.not_lt_zero i)⟩, fun z => z.1⟩)⟩
        rw [sl_e hi (fun x i g => g.2.1)]
        exact ⟨fun z => z.elim False.elim id, Or.inr⟩
      · refine br_f (nI_ge (by omega) (by omega)) (ys_is ok hd (fun z => br_t rfl (nm_r (nI_1 j) (ih (j + 1) f (by omega) (by omega) (sl_n hi (fun i g => ?_))))) (fun a y la ly ea ey q => br_f (by decide) ?_))
        · obtain ⟨⟨a, la, ea, da⟩, _⟩ := g
          exact z ⟨a, j, la, by omega, ea, rfl, da⟩
        · have ey2 := (nI_eq (by omega) (by omega)).mp ey
          subst ey2
          refine ys_nxt ok rl (by omega) (fun r hr => ?_)
          intro g eg
          refine nm_r (nI_1 j) (ih (j + 1) g (by omega) (by omega) (sl_1 hi (fun i => ?_)))
          rw [eg, sl_or, hr i]
          exact or_congr Iff.rfl ⟨fun w => ⟨⟨a, la, ea, q⟩, w⟩, fun w => w.2⟩
  exact ⟨n + 1, L (n + 1) 0 0 (by omega) (by omega) (sl_00 (fun _ z => z))⟩
theorem ys_frt (ok : fe_ok n kd th el) (rl : fe_rl n kd ev th el us f1 f2) {post : Int32 → SY → Prop} {v1 : Int32} (h1 : ∀ r ym' ru', (∀ i, bt r i = true ↔ ∃ a, a < n ∧ v1 = nI a ∧ fd_F (fe_E n kd th el) (fe_st n) a i) → post r ((nI n), (nI k), ym', yr, yb, yl, sz, op, rs, fi, se, kd, us, f1, f2, yv, nd, ru', eg, yg, nw, yo, yw)) : wpY_frontier post ((nI n), (nI k), ym, yr, yb, yl, sz, op, rs, fi, se, kd, us, f1, f2, yv, nd, ru, eg, yg, nw, yo, yw) v1 := by
  unfold wpY_frontier
  exact ys_lok ok rl (fun ym' ru' hd => ys_edg ok rl hd (fun r hr => h1 r ym' ru' hr))
theorem ys_set (hn : n ≤ 16) (is : fe_is n sz op rs fi se) {post : Int32 → Prop} {x : Nat} (hx : x < n) {v : Int32} (h0 : ¬ fe_se sz rs x v → post 0) (h1 : fe_se sz rs x v → post 1) : wpY_sets post ((nI n), (nI k), ym, yr, yb, yl, sz, op, rs, fi, se, kd, us, f1, f2, yv, nd, ru, eg, yg, nw, yo, yw) (nI x) v := by
  obtain ⟨s, hs, es, _⟩ := is x hx
  have c : (nI x).toNatClampNeg = x := nI_clamp (by omega)
  have cs : (sz x).toNatClampNeg = s := by rw [es, nI_clamp (by omega)]
  have e4 : (4 : Int32) * nI x = nI (4 * x) := by
    show nI 4 * nI x = _
    rw [pk_mul]
  have L : ∀ m q, q ≤ s → s - q < m → (∀ i, i < q → ¬ rs (4 * x + i) = v) → wY_sets_4 post (nI x) v (nI n) (nI k) ym yr yb yl sz op rs fi se kd us f1 f2 yv nd ru eg yg nw yo yw m (nI (4 * x + q)) := by
    intro m
    induction m with
    | zero => intro j _ h; omega
    | succ m ih =>
      intro q hq hm hi
      have vi : vp_in (nI x) 16 := vp_in_nI (by omega) (by omega)
      have e5 : ((4 : Int32) * nI x) + sz (nI x).toNatClampNeg = nI (4 * x + s) := by rw [e4, c, es, nI_add]
      by_cases e : q = s
      · subst e
        refine ⟨vi, br_t (by rw [e5]; exact Int32.le_refl _) (h0 (fun ⟨i, hi', q'⟩ => hi i (by omega) q'))⟩
      · refine ⟨vi, br_f (by rw [e5]; exact nI_ge (by omega) (by omega)) ⟨vp_in_nI (by omega) (by omega), ?_⟩⟩
        have c4 : (nI (4 * x + q)).toNatClampNeg = 4 * x + q := nI_clamp (by omega)
        by_cases z : rs (4 * x + q) = v
        · exact br_t (by rw [c4]; exact z) (h1 ⟨q, by omega, z⟩)
        · refine br_f (by rw [c4]; exact z) (nm_r (nI_1 _) (ih (q + 1) (by omega) (by omega) (fun i hi' => ?_)))
          by_cases ei : i = q
          · rw [ei]; exact z
          · exact hi i (by omega)
  intro y ey
  rw [e4] at ey
  subst ey
  exact ⟨s + 1, L (s + 1) 0 (by omega) (by omega) (fun i hi => absurd hi (Nat.not_lt_zero i))⟩
theorem ys_mer (ok : fe_ok n kd th el) (rl : fe_rl n kd ev th el us f1 f2) (is : fe_is n sz op rs fi se) {post : Int32 → SY → Prop} {v1 : Int32}
    (h1 : ∀ r ym' ru' eg', (∀ i, bt r i = true ↔ (i < 6 ∧ ∃ b, b < n ∧ v1 = nI b ∧ fd_G (fe_E n kd th el) (fe_st n) (fe_sc n sz rs (nI i)) b)) → post r ((nI n), (nI k), ym', yr, yb, yl, sz, op, rs, fi, se, kd, us, f1, f2, yv, nd, ru', eg', yg, nw, yo, yw)) : wpY_merges post ((nI n), (nI k), ym, yr, yb, yl, sz, op, rs, fi, se, kd, us, f1, f2, yv, nd, ru, eg, yg, nw, yo, yw) v1 := by
  unfold wpY_merges
  have hn := ok.1
  refine ys_out n (by omega) (fun z => br_f (by decide) (h1 0 ym ru eg (fun i => ⟨fun q => absurd q (sl_no i), fun ⟨_, a, la, ea, _⟩ => absurd ea (z a la)⟩))) (fun b lb eb => br_t rfl ?_)
  refine ys_lok ok rl (fun ym' ru' hd => ?_)
  subst eb
  have L4 : ∀ eg', (∀ x, x < n → ∀ i, bt (eg' x) i = true ↔ fd_F (fe_E n kd th el) (fe_st n) x i) → ∀ (J J' : Int32 → Int32 → Prop) (x2 x3 s0 : Int32), (∀ f, fr_rd (fd_F (fe_E n kd th el) (fe_st n)) (fun _ => False) s0 f → J' f s0) →
      ∀ m j f, j ≤ n → n - j < m → sl_in (fun i => bt s0 i = true) (fun x i => bt s0 x = true ∧ fd_F (fe_E n kd th el) (fe_st n) x i) j f → wY_merges_119 post J J' (nI b) x2 x3 s0 (nI n) (nI k) ym' yr yb yl sz op rs fi se kd us f1 f2 yv nd ru' eg' yg nw yo yw m f (nI j) := by
    intro eg' he J J' x2 x3 s0 hJ m
    induction m with
    | zero => intro j f _ h; omega
    | succ m ih =>
      intro j f hj hm hi
      by_cases e : j = n
      · subst e
        refine br_t (Int32.le_refl _) (hJ f (fun i => ?_))
        rw [sl_e hi (fun x i g => fe_Mn ok (fd_F16 ok g.2).2.2)]
        exact or_congr Iff.rfl ⟨fun z => ⟨z, fun f => f⟩, fun z => z.1⟩
      · have c : (nI j).toNatClampNeg = j := nI_clamp (by omega)
        refine br_f (nI_ge (by omega) (by omega)) (ys_has (by omega) (fun z => nm_r (nI_1 j) (ih (j + 1) f (by omega) (by omega) (sl_n hi (fun i g => z g.1)))) (fun z => ⟨vp_in_nI (by omega) (by omega), ?_⟩))
        intro y ey
        rw [c] at ey
        refine nm_r (nI_1 j) (ih (j + 1) y (by omega) (by omega) (sl_1 hi (fun i => ?_)))
        rw [ey, sl_or, he j (by omega) i]
        exact or_congr Iff.rfl ⟨fun g => ⟨z, g⟩, fun g => g.2⟩
  have L3 : ∀ eg', (∀ x, x < n → ∀ i, bt (eg' x) i = true ↔ fd_F (fe_E n kd th el) (fe_st n) x i) → ∀ (J : Int32 → Int32 → Prop) (x2 : Int32) (v : Nat), v < 6 → (fd_G (fe_E n kd th el) (fe_st n) (fe_sc n sz rs (nI v)) b → J (x2 ||| ((1 : Int32) <<< (nI v &&& 31))) (nI (v + 1))) → (¬ fd_G (fe_E n kd th el) (fe_st n) (fe_sc n sz rs (nI v)) b → J x2 (nI (v + 1))) →
      ∀ m s s0, fy_in (fd_F (fe_E n kd th el) (fe_st n)) (fun z => ∃ x, fe_sc n sz rs (nI v) x ∧ fd_F (fe_E n kd th el) (fe_st n) x z) (fun _ => False) s s0 → 32 - fa_cn (bt s0) 32 < m → wY_merges_105 post J (nI b) x2 (nI v) (nI n) (nI k) ym' yr yb yl sz op rs fi se kd us f1 f2 yv nd ru' eg' yg nw yo yw m s s0 := by
    intro eg' he J x2 v hv hJ1 hJ0 m
    induction m with
    | zero => intro s s0 _ h; omega
    | succ m ih =>
      intro s s0 hi hm
      by_cases e : s = s0
      · subst e
        have hb := fy_e hi b
        refine br_t rfl (ys_has (by omega) (fun z => nm_r (nI_1 v) (hJ0 (fun q => z (hb.mpr q)))) (fun z => nm_e (nm_r (nI_1 v) (hJ1 (hb.mp z)))))
      · refine br_f e ⟨n + 1, L4 eg' he J _ x2 (nI v) s (fun f hr => ?_) (n + 1) 0 s (by omega) (by omega) (sl_0 (fun i => Iff.rfl))⟩
        have := fy_mu hi e
        exact ih f s (fy_1 hi hr) (by omega)
  have L2 : ∀ eg', (∀ x, x < n → ∀ i, bt (eg' x) i = true ↔ fd_F (fe_E n kd th el) (fe_st n) x i) → ∀ (J : Int32 → Int32 → Prop) (x2 : Int32) (v : Nat), v < 6 → (fd_G (fe_E n kd th el) (fe_st n) (fe_sc n sz rs (nI v)) b → J (x2 ||| ((1 : Int32) <<< (nI v &&& 31))) (nI (v + 1))) → (¬ fd_G (fe_E n kd th el) (fe_st n) (fe_sc n sz rs (nI v)) b → J x2 (nI (v + 1))) →
      ∀ m j f, j ≤ n → n - j < m → sl_in (fun i => fd_F (fe_E n kd th el) (fe_st n) 0 i) (fun x i => x < n ∧ fe_se sz rs x (nI v) ∧ fd_F (fe_E n kd th el) (fe_st n) x i) j f → wY_merges_65 post J (nI b) x2 (nI v) (nI n) (nI k) ym' yr yb yl sz op rs fi se kd us f1 f2 yv nd ru' eg' yg nw yo yw m f (nI j) := by
    intro eg' he J x2 v hv hJ1 hJ0 m
    induction m with
    | zero => intro j f _ h; omega
    | succ m ih =>
      intro j f hj hm hi
      by_cases e : j = n
      · subst e
        refine br_t (Int32.le_refl _) ⟨33, L3 eg' he J x2 v hv hJ1 hJ0 33 f 0 (fy_0 (fun i => ?_)) (by omega)⟩
        rw [sl_e hi (fun x i g => g.1)]
        constructor
        · rintro (z | ⟨x, z1, z2, z3⟩)
          · exact ⟨⟨0, Or.inl rfl, z⟩, fun f => f⟩
          · exact ⟨⟨x, Or.inr ⟨z1, z2⟩, z3⟩, fun f => f⟩
        · rintro ⟨⟨x, z1 | z1, z2⟩, _⟩
          · rw [z1] at z2; exact Or.inl z2
          · exact Or.inr ⟨x, z1.1, z1.2, z2⟩
      · have c : (nI j).toNatClampNeg = j := nI_clamp (by omega)
        refine br_f (nI_ge (by omega) (by omega)) (ys_set hn is (by omega) (fun z => br_t rfl (nm_r (nI_1 j) (ih (j + 1) f (by omega) (by omega) (sl_n hi (fun i g => z g.2.1))))) (fun z => br_f (by decide) ⟨vp_in_nI (by omega) (by omega), ?_⟩))
        intro y ey
        rw [c] at ey
        refine nm_r (nI_1 j) (ih (j + 1) y (by omega) (by omega) (sl_1 hi (fun i => ?_)))
        rw [ey, sl_or, he j (by omega) i]
        exact or_congr Iff.rfl ⟨fun g => ⟨by omega, z, g⟩, fun g => g.2.2⟩
  have L1 : ∀ eg', (∀ x, x < n → ∀ i, bt (eg' x) i = true ↔ fd_F (fe_E n kd th el) (fe_st n) x i) → ∀ m j f, j ≤ 6 → 6 - j < m → sl_in (fun _ => False) (fun v i => i = v ∧ (v < 6 ∧ fd_G (fe_E n kd th el) (fe_st n) (fe_sc n sz rs (nI v)) b)) j f → wY_merges_48 post (nI b) (nI n) (nI k) ym' yr yb yl sz op rs fi se kd us f1 f2 yv nd ru' eg' yg nw yo yw m f (nI j) := by
    intro eg' he m
    induction m with
    | zero => intro j f _ h; omega
    | succ m ih =>
      intro j f hj hm hi
      by_cases e : j = 6
      · subst e
        refine br_t (by decide) (h1 f ym' ru' eg' (fun i => ?_))
        rw [sl_e hi (fun x i g => g.2.1)]
        constructor
        · rintro (z | ⟨x, g1, g2, g3⟩)
          · exact z.elim
          · rw [g1]
            exact ⟨g2, b, lb, rfl, g3⟩
        · rintro ⟨g2, b', lb', e', g3⟩
          rw [← (nI_eq (by omega) (by omega)).mp e'] at g3
          exact Or.inr ⟨i, rfl, g2, g3⟩
      · refine br_f (nI_ge (b := 6) (by omega) (by decide)) (nm_e ⟨n + 1, L2 eg' he _ f j (by omega) (fun g => ?_) (fun g => ?_) (n + 1) 0 (eg' 0) (by omega) (by omega) (sl_0 (he 0 (by omega)))⟩)
        · refine ih (j + 1) _ (by omega) (by omega) (sl_1 hi (fun i => ?_))
          rw [sl_or, sl_sg (by omega)]
          exact or_congr Iff.rfl ⟨fun w => ⟨w, by omega, g⟩, fun w => w.1⟩
        · exact ih (j + 1) f (by omega) (by omega) (sl_n hi (fun i w => g w.2.2))
  have L0 : ∀ m x eg', x ≤ n → n - x < m → (∀ z, z < x → ∀ i, bt (eg' z) i = true ↔ fd_F (fe_E n kd th el) (fe_st n) z i) → wY_merges_19 post (nI b) (nI n) (nI k) ym' yr yb yl m (nI x) sz op rs fi se kd us f1 f2 yv nd ru' eg' yg nw yo yw := by
    intro m
    induction m with
    | zero => intro j f _ h; omega
    | succ m ih =>
      intro x eg' hx hm hi
      by_cases e : x = n
      · subst e
        exact br_t (Int32.le_refl _) ⟨7, L1 eg' hi 7 0 0 (by omega) (by omega) (sl_00 (fun _ z => z))⟩
      · have c : (nI x).toNatClampNeg = x := nI_clamp (by omega)
        refine br_f (nI_ge (by omega) (by omega)) (ys_edg ok rl hd (fun r hr => ⟨vp_in_nI (by omega) (by omega), ?_⟩))
        intro y ey
        rw [c] at ey
        subst ey
        refine nm_r (nI_1 x) (ih (x + 1) _ (by omega) (by omega) (fun z hz i => ?_))
        by_cases ez : z = x
        · subst ez
          rw [pk_us, hr i]
          refine ⟨fun ⟨a, la, ea, q⟩ => ?_, fun q => ⟨z, by omega, rfl, q⟩⟩
          rw [(nI_eq (by omega) (by omega)).mp ea]
          exact q
        · rw [pk_un ez]
          exact hi z (by omega) i
  exact ⟨n + 1, L0 (n + 1) 0 eg (by omega) (by omega) (fun z hz => absurd hz (Nat.not_lt_zero z))⟩
theorem ys_dep (ok : fe_ok n kd th el) (rl : fe_rl n kd ev th el us f1 f2) {post : Int32 → SY → Prop} {v1 : Int32} (h0 : (∀ j, j < n → ¬ v1 = nI j) → post (-1) ((nI n), (nI k), ym, yr, yb, yl, sz, op, rs, fi, se, kd, us, f1, f2, yv, nd, ru, eg, yg, nw, yo, yw))
    (h1 : ∀ b, b < n → v1 = nI b → ∀ ym' ru', post (nI (fa_cn (fa_pc (fun h => fd_L (fe_E n kd th el) (fe_st n) h b)) n)) ((nI n), (nI k), ym', yr, yb, yl, sz, op, rs, fi, se, kd, us, f1, f2, yv, nd, ru', eg, yg, nw, yo, yw)) : wpY_depth post ((nI n), (nI k), ym, yr, yb, yl, sz, op, rs, fi, se, kd, us, f1, f2, yv, nd, ru, eg, yg, nw, yo, yw) v1 := by
  unfold wpY_depth
  have hn := ok.1
  refine ys_out n (by omega) (fun z => br_f (by decide) (h0 z)) (fun b lb eb => br_t rfl ?_)
  refine ys_lok ok rl (fun ym' ru' hd => ?_)
  subst eb
  have L2 : ∀ (J : Int32 → Int32 → Prop) (x2 : Int32) (h : Nat), h < n → (fd_L (fe_E n kd th el) (fe_st n) h b → J (x2 + 1) (nI (h + 1))) → (¬ fd_L (fe_E n kd th el) (fe_st n) h b → J x2 (nI (h + 1))) →
      ∀ m j f, j ≤ n → n - j < m → sl_in (fun _ => False) (fun x i => i = x ∧ fd_T (fe_E n kd th el) (fe_st n) h x) j f → wY_depth_35 post J (nI b) x2 (nI h) (nI n) (nI k) ym' yr yb yl sz op rs fi se kd us f1 f2 yv nd ru' eg yg nw yo yw m f (nI j) := by
    intro J x2 h lh hJ1 hJ0 m
    have y1 : fd_L (fe_E n kd th el) (fe_st n) h b → wY_depth_129 post J (nI b) x2 (nI h) (nI n) (nI k) ym' yr yb yl sz op rs fi se kd us f1 f2 yv nd ru' eg yg nw yo yw := fun q => br_f (by decide) (nm_e (nm_r (nI_1 h) (hJ1 q)))
    have y0 : ¬ fd_L (fe_E n kd th el) (fe_st n) h b → wY_depth_134 post J (nI b) x2 (nI h) 0 (nI n) (nI k) ym' yr yb yl sz op rs fi se kd us f1 f2 yv nd ru' eg yg nw yo yw := fun q => br_t rfl (nm_r (nI_1 h) (hJ0 q))
    induction m with
    | zero => intro j f _ h; omega
    | succ m ih =>
      intro j f hj hm hi
      by_cases e : j = n
      · have e' := e.symm
        subst e'
        have hi2 : ∀ i, bt f i = true ↔ fd_T (fe_E n kd th el) (fe_st n) h i := by
          intro i
          rw [sl_e hi (fun x i g => g.2.1.1)]
          exact ⟨fun z => z.elim False.elim (fun ⟨x, z1, z2⟩ => by rw [z1]; exact z2), fun z => Or.inr ⟨i, rfl, z⟩⟩
        refine br_t (Int32.le_refl _) ?_
        by_cases q : ∃ i, bt f i = true
        · have q2 : ∃ x, fd_T (fe_E n kd th el) (fe_st n) h x := by
            obtain ⟨i, hi3⟩ := q
            exact ⟨i, (hi2 i).mp hi3⟩
          refine br_f (fun z => (sl_z f).mp z q) (ys_has (by omega) (fun z => nm_r (nI_1 h) (hJ0 (fun w => z ((hd.1 b).mpr (fd_Le.mpr w).2.1)))) (fun z => ?_))
          have mb := (hd.1 b).mp z
          by_cases eh : b = h
          · exact br_t (by rw [eh]) (y1 (fd_Le.mp ⟨q2, mb, Or.inl eh⟩))
          · refine br_f (fun w => eh ((nI_eq (by omega) (by omega)).mp w)) (ys_com ok rl (st := fun x => x = b) (av := fun x => x = h) (sl_sg (by omega)) (Or.inr ⟨h, by omega, rfl, fun i => Iff.rfl⟩) (fun r hr => ?_))
            by_cases w : ∃ i, bt r i = true ∧ bt f i = true
            · refine br_f (fun w' => (sl_me r f).mp w' w) (y1 (fd_Le.mp ⟨q2, mb, Or.inr (Or.inl ?_)⟩))
              obtain ⟨i, w1, w2⟩ := w
              exact ⟨i, (hr i).mp w1, (hi2 i).mp w2⟩
            · refine br_t ((sl_me r f).mpr w) (ys_has (by omega) (fun w2 => y0 (fun g => ?_)) (fun w2 => y1 (fd_Le.mp ⟨q2, mb, Or.inr (Or.inr ((hi2 b).mp w2))⟩)))
              rcases (fd_Le.mpr g).2.2 with g1 | ⟨t, g1, g2⟩ | g1
              · exact eh g1
              · exact w ⟨t, (hr t).mpr g1, (hi2 t).mpr g2⟩
              · exact w2 ((hi2 b).mpr g1)
        · refine br_t ((sl_z f).mpr q) (nm_r (nI_1 h) (hJ0 (fun g => ?_)))
          obtain ⟨⟨x, hx⟩, _⟩ := g
          exact q ⟨x, (hi2 x).mpr hx⟩
      · refine br_f (nI_ge (by omega) (by omega)) (ys_nxt ok rl (by omega) (fun r hr => ys_has (by omega) (fun z => nm_r (nI_1 j) (ih (j + 1) f (by omega) (by omega) (sl_n hi (fun i g => z ((hr h).mpr g.2.1))))) (fun z => ?_)))
        refine ys_isN ok hd lh (by omega) (fun w => br_t rfl (nm_r (nI_1 j) (ih (j + 1) f (by omega) (by omega) (sl_n hi (fun i g => w g.2.2))))) (fun w => br_f (by decide) ?_)
        intro y ey
        refine nm_r (nI_1 j) (ih (j + 1) y (by omega) (by omega) (sl_1 hi (fun i => ?_)))
        rw [ey, sl_or, sl_sg (by omega)]
        exact or_congr Iff.rfl ⟨fun g => ⟨g, (hr h).mp z, w⟩, fun g => g.1⟩
  have L : ∀ m h, h ≤ n → n - h < m → wY_depth_21 post (nI b) (nI n) (nI k) ym' yr yb yl sz op rs fi se kd us f1 f2 yv nd ru' eg yg nw yo yw m (nI (fa_cn (fa_pc (fun h => fd_L (fe_E n kd th el) (fe_st n) h b)) h)) (nI h) := by
    intro m
    induction m with
    | zero => intro j _ h; omega
    | succ m ih =>
      intro h hh hm
      by_cases e : h = n
      · subst e
        exact br_t (Int32.le_refl _) (h1 b lb rfl ym' ru')
      · have := ih (h + 1) (by omega) (by omega)
        refine br_f (nI_ge (by omega) (by omega)) ⟨n + 1, L2 _ _ h (by omega) (fun q => ?_) (fun q => ?_) (n + 1) 0 0 (by omega) (by omega) (sl_00 (fun _ z => z))⟩
        · rw [fa_cn1 (p := fa_pc (fun h => fd_L (fe_E n kd th el) (fe_st n) h b)) (m := h) (fa_pt.mpr q)] at this
          rw [nI_1]
          exact this
        · rw [fa_cn0 (p := fa_pc (fun h => fd_L (fe_E n kd th el) (fe_st n) h b)) (m := h) (fun z => q (fa_pt.mp z))] at this
          exact this
  exact ⟨n + 1, L (n + 1) 0 (by omega) (by omega)⟩
end
