/-- what one block adds to a count -/
noncomputable def fz_g (n : Nat) (sz kd ev th el op rs fi se : Nat → Int32) (p : (Nat → Int64) × (Nat → Bool)) (w x : Nat) : Nat :=
  if w = 0 then fz_on (fa_pc (fd_M (fe_E n kd th el) (fe_st n)) x) else if w = 1 then fz_on (p.2 x) else if w = 2 then (if fa_pc (fd_M (fe_E n kd th el) (fe_st n)) x = true then (kd x).toNatClampNeg else 0) else fz_wy sz kd ev op rs fi se p x
theorem fz_kn {n : Nat} {kd th el : Nat → Int32} (ok : fe_ok n kd th el) {x : Nat} (hx : x < n) : kd x = nI (kd x).toNatClampNeg := by
  rcases (ok.2 x hx).1 with e | e | e <;> rw [e] <;> rfl
section
variable {n k : Nat} {ym yr yb yl : Int32} {sz kd ev th el op rs fi se us f1 f2 yv nd ru eg yo yw : Nat → Int32} {yg nw : Nat → Int64}
theorem yc_112 (ok : fe_ok n kd th el) {post : Int32 → SY → Prop}
    {J : Int32 → Int32 → Int32 → Int32 → Int32 → Int32 → Int32 → Int32 → (Nat → Int32) → (Nat → Int32) → (Nat → Int32) → (Nat → Int32) → (Nat → Int32) → (Nat → Int32) → (Nat → Int32) → (Nat → Int32) → (Nat → Int32) → (Nat → Int32) → (Nat → Int32) → (Nat → Int32) → (Nat → Int32) → (Nat → Int64) → (Nat → Int64) → (Nat → Int32) → (Nat → Int32) → Prop}
    {p : (Nat → Int64) × (Nat → Bool)} {w x a u : Nat} {z0 : Int32} (hx : x < n) (hw : w < 4) (hyo : (p.2 x = true → yo x = 1) ∧ (p.2 x = false → yo x = 0)) (hz : (z0 = 0 ∧ ¬ fd_M (fe_E n kd th el) (fe_st n) x) ∨ (z0 = 1 ∧ fd_M (fe_E n kd th el) (fe_st n) x))
    (hu : u = fz_wy sz kd ev op rs fi se p x) (hJ : J (nI (a + fz_g n sz kd ev th el op rs fi se p w x)) (nI (x + 1)) (nI n) (nI k) ym yr yb yl sz op rs fi se kd us f1 f2 yv nd ru eg yg nw yo yw) : wY_count_112 post J (nI w) (nI a) (nI x) (kd x) (nI u) z0 (nI n) (nI k) ym yr yb yl sz op rs fi se kd us f1 f2 yv nd ru eg yg nw yo yw := by
  have hn := ok.1
  have c : (nI x).toNatClampNeg = x := nI_clamp (by omega)
  have vi : vp_in (nI x) 16 := vp_in_nI (by omega) (by omega)
  have hw4 : w = 0 ∨ w = 1 ∨ w = 2 ∨ w = 3 := by omega
  unfold fz_g at hJ
  rcases hw4 with e | e | e | e
  · subst e
    rw [if_pos rfl] at hJ
    unfold fz_on at hJ
    refine br_t rfl ?_
    rcases hz with ⟨e0, hM⟩ | ⟨e0, hM⟩
    · rw [if_neg (fun z => hM (fa_pt.mp z))] at hJ
      exact br_t e0 (nm_r (nI_add a 0) (nm_r (nI_1 x) hJ))
    · rw [if_pos (fa_pt.mpr hM)] at hJ
      exact br_f (by rw [e0]; decide) (nm_r (nI_add a 1) (nm_r (nI_1 x) hJ))
  · subst e
    rw [if_neg (by decide), if_pos rfl] at hJ
    unfold fz_on at hJ
    refine br_f (by decide) (br_t rfl ⟨vi, ?_⟩)
    cases hpx : p.2 x
    · rw [if_neg (by rw [hpx]; decide)] at hJ
      exact br_t (by rw [c]; exact hyo.2 hpx) (nm_r (nI_add a 0) (nm_r (nI_1 x) hJ))
    · rw [if_pos hpx] at hJ
      exact br_f (by rw [c, hyo.1 hpx]; decide) (nm_r (nI_add a 1) (nm_r (nI_1 x) hJ))
  · subst e
    rw [if_neg (by decide), if_neg (by decide), if_pos rfl] at hJ
    refine br_f (by decide) (br_f (by decide) (br_t rfl ?_))
    rcases hz with ⟨e0, hM⟩ | ⟨e0, hM⟩
    · rw [if_neg (fun z => hM (fa_pt.mp z))] at hJ
      exact br_t e0 (nm_r (nI_add a 0) (nm_r (nI_1 x) hJ))
    · rw [if_pos (fa_pt.mpr hM)] at hJ
      refine br_f (by rw [e0]; decide) ?_
      intro y ey
      rw [fz_kn ok hx, nI_add] at ey
      subst ey
      exact nm_r (nI_1 x) hJ
  · subst e
    rw [if_neg (by decide), if_neg (by decide), if_neg (by decide), ← hu] at hJ
    exact br_f (by decide) (br_f (by decide) (br_f (by decide) (nm_r (nI_add a u) (nm_r (nI_1 x) hJ))))
theorem yc_94 (ok : fe_ok n kd th el) (hd : ys_dom n kd th el ym ru) {post : Int32 → SY → Prop}
    {J : Int32 → Int32 → Int32 → Int32 → Int32 → Int32 → Int32 → Int32 → (Nat → Int32) → (Nat → Int32) → (Nat → Int32) → (Nat → Int32) → (Nat → Int32) → (Nat → Int32) → (Nat → Int32) → (Nat → Int32) → (Nat → Int32) → (Nat → Int32) → (Nat → Int32) → (Nat → Int32) → (Nat → Int32) → (Nat → Int64) → (Nat → Int64) → (Nat → Int32) → (Nat → Int32) → Prop}
    {p : (Nat → Int64) × (Nat → Bool)} {w x a u : Nat} (hx : x < n) (hw : w < 4) (hyo : (p.2 x = true → yo x = 1) ∧ (p.2 x = false → yo x = 0))
    (hu : u = fz_wy sz kd ev op rs fi se p x) (hJ : J (nI (a + fz_g n sz kd ev th el op rs fi se p w x)) (nI (x + 1)) (nI n) (nI k) ym yr yb yl sz op rs fi se kd us f1 f2 yv nd ru eg yg nw yo yw) : wY_count_94 post J (nI w) (nI a) (nI x) (kd x) (nI u) (nI n) (nI k) ym yr yb yl sz op rs fi se kd us f1 f2 yv nd ru eg yg nw yo yw := by
  have hn := ok.1
  refine ys_has (by omega) (fun z => yc_112 ok hx hw hyo (Or.inl ⟨rfl, fun q => z ((hd.1 x).mpr q)⟩) hu hJ) (fun z => yc_112 ok hx hw hyo (Or.inr ⟨rfl, (hd.1 x).mp z⟩) hu hJ)
theorem yc_52 (ok : fe_ok n kd th el) (hev : fe_ev n kd ev) (rl : fe_rl n kd ev th el us f1 f2) (hd : ys_dom n kd th el ym ru) {post : Int32 → SY → Prop}
    {J : Int32 → Int32 → Int32 → Int32 → Int32 → Int32 → Int32 → Int32 → (Nat → Int32) → (Nat → Int32) → (Nat → Int32) → (Nat → Int32) → (Nat → Int32) → (Nat → Int32) → (Nat → Int32) → (Nat → Int32) → (Nat → Int32) → (Nat → Int32) → (Nat → Int32) → (Nat → Int32) → (Nat → Int32) → (Nat → Int64) → (Nat → Int64) → (Nat → Int32) → (Nat → Int32) → Prop}
    {p : (Nat → Int64) × (Nat → Bool)} {w x a : Nat} (hx : x < n) (hw : w < 4) (hyo : (p.2 x = true → yo x = 1) ∧ (p.2 x = false → yo x = 0)) (hen : p.2 x = true → ∀ v, v < 6 → nw v = fz_en sz op rs fi se p.1 x v)
    (hJ : J (nI (a + fz_g n sz kd ev th el op rs fi se p w x)) (nI (x + 1)) (nI n) (nI k) ym yr yb yl sz op rs fi se kd us f1 f2 yv nd ru eg yg nw yo yw) : wY_count_52 post J (nI w) (nI a) (nI x) (kd x) (nI n) (nI k) ym yr yb yl sz op rs fi se kd us f1 f2 yv nd ru eg yg nw yo yw := by
  have hn := ok.1
  have c : (nI x).toNatClampNeg = x := nI_clamp (by omega)
  have vi : vp_in (nI x) 16 := vp_in_nI (by omega) (by omega)
  cases hpx : p.2 x
  · refine ⟨vi, br_t (by rw [c]; exact hyo.2 hpx) (yc_94 ok hd (u := 0) hx hw hyo ?_ hJ)⟩
    unfold fz_wy
    rw [if_neg (by rw [hpx]; decide)]
  · have hen' := hen hpx
    refine ⟨vi, br_f (by rw [c, hyo.1 hpx]; decide) (yv_ld ok hev rl hx hen' (fun h1 => br_t rfl ?_) (fun h1 => br_f (by decide) ?_))⟩
    · unfold wY_count_79
      refine yv_l2 ok hev rl hx hen' (fun h2 => br_t rfl (yc_94 ok hd (u := 0) hx hw hyo ?_ hJ)) (fun h2 => br_f (by decide) (yc_94 ok hd (u := 1) hx hw hyo ?_ hJ))
      · unfold fz_wy
        rw [if_pos hpx, if_neg h1, if_neg h2]
      · unfold fz_wy
        rw [if_pos hpx, if_neg h1, if_pos h2]
    · unfold wY_count_79
      refine yv_l2 ok hev rl hx hen' (fun h2 => br_t rfl (yc_94 ok hd (u := 1) hx hw hyo ?_ hJ)) (fun h2 => br_f (by decide) (yc_94 ok hd (u := 2) hx hw hyo ?_ hJ))
      · unfold fz_wy
        rw [if_pos hpx, if_pos h1, if_neg h2]
      · unfold fz_wy
        rw [if_pos hpx, if_pos h1, if_pos h2]
theorem yc_cnt (ok : fe_ok n kd th el) (hev : fe_ev n kd ev) (rl : fe_rl n kd ev th el us f1 f2) (is : fe_is n sz op rs fi se) (hk : k ≤ 3) {post : Int32 → SY → Prop} {v1 : Int32}
    (h0 : (∀ j, j < 4 → ¬ v1 = nI j) → post (-1) ((nI n), (nI k), ym, yr, yb, yl, sz, op, rs, fi, se, kd, us, f1, f2, yv, nd, ru, eg, yg, nw, yo, yw))
    (h1 : ∀ w, w < 4 → v1 = nI w → ∀ p yg' nw' yo' ym' ru', fz_so sz kd ev th el op rs fi se n (fz_p0 n k) p → post (nI (fz_sm (fz_g n sz kd ev th el op rs fi se p w) n)) ((nI n), (nI k), ym', yr, yb, yl, sz, op, rs, fi, se, kd, us, f1, f2, yv, nd, ru', eg, yg', nw', yo', yw)) : wpY_count post ((nI n), (nI k), ym, yr, yb, yl, sz, op, rs, fi, se, kd, us, f1, f2, yv, nd, ru, eg, yg, nw, yo, yw) v1 := by
  unfold wpY_count
  have hn := ok.1
  refine ys_out 4 (by decide) (fun z => br_f (by decide) (h0 z)) (fun w hw ew => br_t rfl ?_)
  refine yv_sol ok hev rl is hk (fun p yg' nw' yo' hso ag iv => ?_)
  refine ys_lok ok rl (fun ym' ru' hd => ?_)
  subst ew
  have L : ∀ m x nw2, x ≤ n → n - x < m → wY_count_22 post (nI w) m (nI (fz_sm (fz_g n sz kd ev th el op rs fi se p w) x)) (nI x) (nI n) (nI k) ym' yr yb yl sz op rs fi se kd us f1 f2 yv nd ru' eg yg' nw2 yo' yw := by
    intro m
    induction m with
    | zero => intro x nw2 _ h; omega
    | succ m ih =>
      intro x nw2 hx hm
      by_cases e : x = n
      · have e' := e.symm
        subst e'
        exact br_t (Int32.le_refl _) (h1 w hw rfl p yg' nw2 yo' ym' ru' hso)
      · have hxn : x < n := by omega
        have c : (nI x).toNatClampNeg = x := nI_clamp (by omega)
        have vi : vp_in (nI x) 16 := vp_in_nI (by omega) (by omega)
        refine br_f (nI_ge hxn (by omega)) ⟨vi, ?_⟩
        intro y ey
        rw [c] at ey
        subst ey
        refine ⟨vi, ?_⟩
        cases hpx : p.2 x
        · refine br_t (by rw [c]; exact (ag.2 x (by omega)).2 hpx) (yc_52 ok hev rl hd hxn hw (ag.2 x (by omega)) (fun z => ?_) (ih (x + 1) nw2 (by omega) (by omega)))
          rw [hpx] at z
          exact absurd z (by decide)
        · refine br_f (by rw [c, (ag.2 x (by omega)).1 hpx]; decide) (yv_go hn is (B := p.1) hxn (fun v hv => ag.1 _ (by omega)) ((iv x).1 hpx).2 (fun nw3 hen => ?_))
          exact yc_52 ok hev rl hd hxn hw (ag.2 x (by omega)) (fun _ => hen) (ih (x + 1) nw3 (by omega) (by omega))
  exact ⟨n + 1, L (n + 1) 0 nw' (by omega) (by omega)⟩
end
