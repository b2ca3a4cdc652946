section
variable {n k : Nat} {ym yr yb yl : Int32} {sz kd ev th el op rs fi se us f1 f2 yv nd ru eg yo yw : Nat → Int32} {yg nw : Nat → Int64}
theorem yv_163 (ok : fe_ok n kd th el) (hev : fe_ev n kd ev) (rl : fe_rl n kd ev th el us f1 f2) {post : SY → Prop}
    {J106 : Int32 → Int32 → Int32 → Int32 → Int32 → Int32 → Int32 → (Nat → Int32) → (Nat → Int32) → (Nat → Int32) → (Nat → Int32) → (Nat → Int32) → (Nat → Int32) → (Nat → Int32) → (Nat → Int32) → (Nat → Int32) → (Nat → Int32) → (Nat → Int32) → (Nat → Int32) → (Nat → Int32) → (Nat → Int64) → (Nat → Int64) → (Nat → Int32) → (Nat → Int32) → Prop}
    {J114 : Int32 → Int32 → Int32 → Int32 → Int32 → Int32 → Int32 → Int32 → (Nat → Int32) → (Nat → Int32) → (Nat → Int32) → (Nat → Int32) → (Nat → Int32) → (Nat → Int32) → (Nat → Int32) → (Nat → Int32) → (Nat → Int32) → (Nat → Int32) → (Nat → Int32) → (Nat → Int32) → (Nat → Int32) → (Nat → Int64) → (Nat → Int64) → (Nat → Int32) → (Nat → Int32) → Prop}
    {b : Nat} {p p1 : (Nat → Int64) × (Nat → Bool)} {nv : Nat → Int64} {x1 : Int32} (hb : b < n) (ag : yv_ag p1 yg yo) (hw : ∀ v, v < 6 → nw v = nv v) (hok : ∀ v, fz_ok (nv v))
    (h4 : (x1 = 1 ∧ fz_mu p < fz_mu p1) ∨ (x1 = 0 ∧ p1 = p))
    (hp : ∀ r yg' yo', yv_ag (fz_s2 kd ev el b nv p1) yg' yo' → ((r = 1 ∧ fz_mu p < fz_mu (fz_s2 kd ev el b nv p1)) ∨ (r = 0 ∧ fz_s2 kd ev el b nv p1 = p)) → J114 r (nI (b + 1)) (nI n) (nI k) ym yr yb yl sz op rs fi se kd us f1 f2 yv nd ru eg yg' nw yo' yw) :
    wY_solve_163 post J106 J114 x1 (nI b) (nI n) (nI k) ym yr yb yl sz op rs fi se kd us f1 f2 yv nd ru eg yg nw yo yw := by
  unfold wY_solve_163
  have hn := ok.1
  have c : (nI b).toNatClampNeg = b := nI_clamp (by omega)
  unfold fz_s2 at hp
  refine yv_l2 ok hev rl hb hw (fun h3 => br_t rfl (nm_r (nI_1 b) ?_)) (fun h3 => br_f (by decide) ⟨vp_in_nI (by omega) (by omega), ?_⟩)
  · rw [if_neg h3] at hp
    exact hp x1 yg yo ag h4
  · rw [if_pos h3] at hp
    obtain ⟨t, _, ht, et⟩ := (ok.2 b hb).2.2 h3.1
    have ct : (el b).toNatClampNeg = t := by rw [et, nI_clamp (by omega)]
    rw [ct] at hp
    have e2 : f2 b = nI t := ((rl b hb).2.2.2 h3.1).trans et
    rw [c, e2]
    have hmu := (fz_sp_mu (p := p1) (nw := nv) (t := t) (by omega) hok).1
    refine yv_wd (by omega) ag hw hok (fun r yg' yo' hr ag' h0 h1 => ?_)
    rcases hr with q | q
    · refine br_t q (nm_r (nI_1 b) (hp x1 yg' yo' ag' ?_))
      rw [h0 q]
      exact h4
    · refine br_f (by rw [q]; decide) (nm_r (nI_1 b) (hp 1 yg' yo' ag' (Or.inl ⟨rfl, ?_⟩)))
      have h5 := h1 q
      rcases h4 with w | w
      · have := w.2
        omega
      · rw [w.2] at h5 ⊢
        exact h5
theorem yv_rd (ok : fe_ok n kd th el) (hev : fe_ev n kd ev) (rl : fe_rl n kd ev th el us f1 f2) (is : fe_is n sz op rs fi se) {post : SY → Prop}
    {J : Int32 → Int32 → Int32 → Int32 → Int32 → Int32 → Int32 → (Nat → Int32) → (Nat → Int32) → (Nat → Int32) → (Nat → Int32) → (Nat → Int32) → (Nat → Int32) → (Nat → Int32) → (Nat → Int32) → (Nat → Int32) → (Nat → Int32) → (Nat → Int32) → (Nat → Int32) → (Nat → Int32) → (Nat → Int64) → (Nat → Int64) → (Nat → Int32) → (Nat → Int32) → Prop}
    {p0 : (Nat → Int64) × (Nat → Bool)}
    (hJ : ∀ ch p yg' nw' yo', p = fz_rd sz kd ev th el op rs fi se p0 n → yv_ag p yg' yo' → fz_iv n p → ((ch = 1 ∧ fz_mu p0 < fz_mu p) ∨ (ch = 0 ∧ p = p0)) → J ch (nI n) (nI k) ym yr yb yl sz op rs fi se kd us f1 f2 yv nd ru eg yg' nw' yo' yw) :
    ∀ m x ch p yg' nw' yo', x ≤ n → n - x < m → p = fz_rd sz kd ev th el op rs fi se p0 x → yv_ag p yg' yo' → fz_iv n p → ((ch = 1 ∧ fz_mu p0 < fz_mu p) ∨ (ch = 0 ∧ p = p0)) →
      wY_solve_114 post J m ch (nI x) (nI n) (nI k) ym yr yb yl sz op rs fi se kd us f1 f2 yv nd ru eg yg' nw' yo' yw := by
  have hn := ok.1
  have htg := fz_tgo ok
  intro m
  induction m with
  | zero => intro x ch p yg' nw' yo' _ h; omega
  | succ m ih =>
    intro x ch p yg' nw' yo' hx hm ep ag iv hch
    by_cases e : x = n
    · have e' := e.symm
      subst e'
      exact br_t (Int32.le_refl _) (hJ ch p yg' nw' yo' ep ag iv hch)
    · have hxn : x < n := by omega
      have c : (nI x).toNatClampNeg = x := nI_clamp (by omega)
      have vi : vp_in (nI x) 16 := vp_in_nI (by omega) (by omega)
      refine br_f (nI_ge hxn (by omega)) ⟨vi, ?_⟩
      cases hpx : p.2 x
      · have e2 : fz_rd sz kd ev th el op rs fi se p0 (x + 1) = p := by
          show fz_st sz kd ev th el op rs fi se x (fz_rd sz kd ev th el op rs fi se p0 x) = p
          rw [← ep]
          exact if_neg (by rw [hpx]; decide)
        exact br_t (by rw [c]; exact (ag.2 x (by omega)).2 hpx) (nm_r (nI_1 x) (ih (x + 1) ch p yg' nw' yo' (by omega) (by omega) e2.symm ag iv hch))
      · refine br_f (by rw [c, (ag.2 x (by omega)).1 hpx]; decide) ?_
        have nok := fz_enok (sz := sz) (op := op) (d := rs) (a := fi) (b := se) iv hpx
        refine yv_go hn is (B := p.1) hxn (fun v hv => ag.1 _ (by omega)) ((iv x).1 hpx).2 (fun nw2 hen => ?_)
        have e2 : fz_rd sz kd ev th el op rs fi se p0 (x + 1) = fz_s2 kd ev el x (fz_en sz op rs fi se p.1 x) (fz_s1 kd ev th x (fz_en sz op rs fi se p.1 x) p) := by
          show fz_st sz kd ev th el op rs fi se x (fz_rd sz kd ev th el op rs fi se p0 x) = _
          rw [← ep]
          exact if_pos hpx
        have sta := fz_sta (sz := sz) (ev := ev) (op := op) (d := rs) (a := fi) (b := se) (x := x) htg hxn iv
        have e3 : fz_st sz kd ev th el op rs fi se x p = fz_s2 kd ev el x (fz_en sz op rs fi se p.1 x) (fz_s1 kd ev th x (fz_en sz op rs fi se p.1 x) p) := if_pos hpx
        rw [e3] at sta
        have e1 : fz_s1 kd ev th x (fz_en sz op rs fi se p.1 x) p = if fz_lt kd x (fz_en sz op rs fi se p.1 x (ev x).toNatClampNeg) then fz_sp (th x).toNatClampNeg (fz_en sz op rs fi se p.1 x) p else p := rfl
        have nx : ∀ ch1 p1 yg1 yo1, yv_ag p1 yg1 yo1 → p1 = fz_s1 kd ev th x (fz_en sz op rs fi se p.1 x) p → ((ch1 = 1 ∧ fz_mu p0 < fz_mu p1) ∨ (ch1 = 0 ∧ p1 = p0)) → wY_solve_163 post J (wY_solve_114 post J m) ch1 (nI x) (nI n) (nI k) ym yr yb yl sz op rs fi se kd us f1 f2 yv nd ru eg yg1 nw2 yo1 yw := by
          intro ch1 p1 yg1 yo1 ag1 ep1 h4
          refine yv_163 ok hev rl hxn ag1 hen nok h4 (fun r yg2 yo2 ag2 hr => ?_)
          subst ep1
          exact ih (x + 1) r _ yg2 nw2 yo2 (by omega) (by omega) e2.symm ag2 sta.1 hr
        refine yv_ld ok hev rl hxn hen (fun h3 => br_t rfl ?_) (fun h3 => br_f (by decide) ⟨vi, ?_⟩)
        · rw [if_neg h3] at e1
          exact nx ch p yg' yo' ag e1.symm hch
        · rw [if_pos h3] at e1
          obtain ⟨t, _, ht, et⟩ := (ok.2 x hxn).2.1 (fz_ltn h3)
          have ct : (th x).toNatClampNeg = t := by rw [et, nI_clamp (by omega)]
          rw [ct] at e1
          have e4 : f1 x = nI t := ((rl x hxn).2.2.1 (fz_ltn h3)).trans et
          rw [c, e4]
          refine yv_wd (by omega) ag hen nok (fun r yg1 yo1 hr ag1 h0 h1 => ?_)
          rcases hr with q | q
          · refine br_t q (nx ch _ yg1 yo1 ag1 e1.symm ?_)
            rw [h0 q]
            exact hch
          · refine br_f (by rw [q]; decide) (nx 1 _ yg1 yo1 ag1 e1.symm (Or.inl ⟨rfl, ?_⟩))
            have h5 := h1 q
            rcases hch with w | w
            · have := w.2
              omega
            · rw [w.2] at h5 ⊢
              exact h5
theorem yv_sol (ok : fe_ok n kd th el) (hev : fe_ev n kd ev) (rl : fe_rl n kd ev th el us f1 f2) (is : fe_is n sz op rs fi se) (hk : k ≤ 3) {post : SY → Prop}
    (hp : ∀ p yg' nw' yo', fz_so sz kd ev th el op rs fi se n (fz_p0 n k) p → yv_ag p yg' yo' → fz_iv n p → post ((nI n), (nI k), ym, yr, yb, yl, sz, op, rs, fi, se, kd, us, f1, f2, yv, nd, ru, eg, yg', nw', yo', yw)) : wpY_solve post ((nI n), (nI k), ym, yr, yb, yl, sz, op, rs, fi, se, kd, us, f1, f2, yv, nd, ru, eg, yg, nw, yo, yw) := by
  have hn := ok.1
  have L1 : ∀ m p yg' nw' yo', 211 - fz_mu p < m → (∃ q, p = fz_it sz kd ev th el op rs fi se n (fz_p0 n k) q) → yv_ag p yg' yo' → fz_iv n p → wY_solve_106 post m 1 (nI n) (nI k) ym yr yb yl sz op rs fi se kd us f1 f2 yv nd ru eg yg' nw' yo' yw := by
    intro m
    induction m with
    | zero => intro p yg' nw' yo' h; omega
    | succ m ih =>
      intro p yg' nw' yo' hm hq ag iv
      have hb := fz_mub p
      refine br_f (by decide) ⟨n + 1, yv_rd ok hev rl is (fun ch p2 yg2 nw2 yo2 e2 ag2 iv2 hch => ?_) (n + 1) 0 0 p yg' nw' yo' (by omega) (by omega) rfl ag iv (Or.inr ⟨rfl, rfl⟩)⟩
      rcases hch with ⟨w1, w2⟩ | ⟨w1, w2⟩
      · subst w1
        refine ih p2 yg2 nw2 yo2 (by omega) ?_ ag2 iv2
        obtain ⟨q, hq⟩ := hq
        exact ⟨q + 1, by rw [e2, hq]; rfl⟩
      · subst w1
        subst w2
        cases m with
        | zero => omega
        | succ m => exact br_t rfl (hp p2 yg2 nw2 yo2 ⟨hq, e2.symm⟩ ag2 iv2)
  have L86 : ∀ yg' yo', (∀ j, j < 96 → yg' j = (fz_p0 n k).1 j) → (∀ i, i < 16 → yo' i = 0) → wY_solve_86 post (nI n) (nI k) ym yr yb yl sz op rs fi se kd us f1 f2 yv nd ru eg yg' nw yo' yw := by
    intro yg' yo' h1 h2
    by_cases e : n = 0
    · refine br_t (by rw [e]; decide) ?_
      intro y ey
      rw [yv_n0] at ey
      subst ey
      refine ⟨212, L1 212 (fz_p0 n k) yg' nw _ (by omega) ⟨0, rfl⟩ ⟨h1, fun i hi => ⟨fun z => ?_, fun _ => ?_⟩⟩ (fz_p0iv n k)⟩
      · unfold fz_p0 at z
        dsimp only at z
        have := of_decide_eq_true z
        omega
      · by_cases ei : i = 0
        · rw [ei, pk_us]
        · rw [pk_un ei]; exact h2 i hi
    · refine br_f (nI_nle (by omega) (by omega)) ?_
      intro y ey
      rw [yv_n1] at ey
      subst ey
      refine ⟨212, L1 212 (fz_p0 n k) yg' nw _ (by omega) ⟨0, rfl⟩ ⟨h1, fun i hi => ?_⟩ (fz_p0iv n k)⟩
      unfold fz_p0
      dsimp only
      rw [decide_eq_true_iff, decide_eq_false_iff_not]
      by_cases ei : i = 0
      · rw [ei, pk_us]
        exact ⟨fun _ => rfl, fun z => by omega⟩
      · rw [pk_un ei]
        exact ⟨fun z => absurd z.1 ei, fun _ => h2 i hi⟩
  have L46 : ∀ yo', (∀ i, i < 16 → yo' i = 0) → ∀ m v yg', v ≤ 6 → 6 - v < m → (∀ j, j < v → yg' j = (fz_p0 n k).1 j) → (∀ j, j < 96 → v ≤ j → yg' j = fz_N) → wY_solve_46 post (nI n) (nI k) ym yr yb yl m (nI v) sz op rs fi se kd us f1 f2 yv nd ru eg yg' nw yo' yw := by
    intro yo' hyo m
    induction m with
    | zero => intro v yg' _ h; omega
    | succ m ih =>
      intro v yg' hv hm h1 h2
      have hfin : (v = 6 ∨ n = 0) → wY_solve_86 post (nI n) (nI k) ym yr yb yl sz op rs fi se kd us f1 f2 yv nd ru eg yg' nw yo' yw := by
        intro hor
        refine L86 yg' yo' (fun j hj => ?_) hyo
        by_cases jv : j < v
        · exact h1 j jv
        · rw [h2 j hj (by omega)]
          unfold fz_p0
          dsimp only
          rw [if_neg (by omega)]
      by_cases e6 : v = 6
      · have hf := hfin (Or.inl e6)
        subst e6
        exact br_t (by decide) hf
      · refine br_f (nI_ge (b := 6) (by omega) (by decide)) ?_
        by_cases e0 : n = 0
        · exact br_t (by rw [e0]; decide) (hfin (Or.inr e0))
        · have c : (nI v).toNatClampNeg = v := nI_clamp (by omega)
          have vi : vp_in (nI v) 96 := vp_in_nI (by omega) (by omega)
          have nx : ∀ w : Int64, (w = if v < k then fz_V else 0) → ∀ y, y = vp_updL yg' (nI v).toNatClampNeg w → wY_solve_46 post (nI n) (nI k) ym yr yb yl m (nI (v + 1)) sz op rs fi se kd us f1 f2 yv nd ru eg y nw yo' yw := by
            intro w hw y ey
            rw [c] at ey
            subst ey
            refine ih (v + 1) _ (by omega) (by omega) (fun j hj => ?_) (fun j hj hj2 => ?_)
            · by_cases ej : j = v
              · rw [ej, pk_uLs, hw]
                unfold fz_p0
                dsimp only
                rw [if_pos (by omega : v < 6 ∧ 0 < n)]
              · rw [pk_uLn ej]; exact h1 j (by omega)
            · rw [pk_uLn (by omega)]; exact h2 j hj (by omega)
          refine br_f (nI_nle (by omega) (by omega)) ?_
          by_cases q : k ≤ v
          · exact br_t (nI_le q (by omega)) ⟨vi, fun y ey => nm_r (nI_1 v) (nx 0 (by rw [if_neg (by omega)]) y ey)⟩
          · exact br_f (nI_ge (by omega) (by omega)) ⟨vi, fun y ey => nm_r (nI_1 v) (nx 10000000001 (by rw [if_pos (by omega)]; rfl) y ey)⟩
  have L25 : ∀ yg', (∀ j, j < 96 → yg' j = fz_N) → ∀ m x yo', x ≤ 16 → 16 - x < m → (∀ z, z < x → yo' z = 0) → wY_solve_25 post (nI n) (nI k) ym yr yb yl m (nI x) sz op rs fi se kd us f1 f2 yv nd ru eg yg' nw yo' yw := by
    intro yg' hyg m
    induction m with
    | zero => intro x yo' _ h; omega
    | succ m ih =>
      intro x yo' hx hm hi
      by_cases e : x = 16
      · subst e
        exact br_t (by decide) ⟨7, L46 yo' hi 7 0 yg' (by omega) (by omega) (fun j hj => absurd hj (Nat.not_lt_zero j)) (fun j hj _ => hyg j hj)⟩
      · have c : (nI x).toNatClampNeg = x := nI_clamp (by omega)
        refine br_f (nI_ge (b := 16) (by omega) (by decide)) ⟨vp_in_nI (by omega) (by omega), ?_⟩
        intro y ey
        rw [c, yv_n0] at ey
        subst ey
        refine nm_r (nI_1 x) (ih (x + 1) _ (by omega) (by omega) (fun z hz => ?_))
        by_cases ez : z = x
        · rw [ez, pk_us]
        · rw [pk_un ez]; exact hi z (by omega)
  have L2 : ∀ m x yg', x ≤ 96 → 96 - x < m → (∀ j, j < x → yg' j = fz_N) → wY_solve_2 post (nI n) (nI k) ym yr yb yl m (nI x) sz op rs fi se kd us f1 f2 yv nd ru eg yg' nw yo yw := by
    intro m
    induction m with
    | zero => intro x yg' _ h; omega
    | succ m ih =>
      intro x yg' hx hm hi
      by_cases e : x = 96
      · subst e
        exact br_t (by decide) ⟨17, L25 yg' hi 17 0 yo (by omega) (by omega) (fun z hz => absurd hz (Nat.not_lt_zero z))⟩
      · have c : (nI x).toNatClampNeg = x := nI_clamp (by omega)
        refine br_f (nI_ge (b := 96) (by omega) (by decide)) ⟨vp_in_nI (by omega) (by omega), ?_⟩
        intro y ey
        rw [c] at ey
        subst ey
        refine nm_r (nI_1 x) (ih (x + 1) _ (by omega) (by omega) (fun z hz => ?_))
        by_cases ez : z = x
        · rw [ez, pk_uLs]; rfl
        · rw [pk_uLn ez]; exact hi z (by omega)
  exact ⟨97, L2 97 0 yg (by omega) (by omega) (fun z hz => absurd hz (Nat.not_lt_zero z))⟩
theorem yv_val (ok : fe_ok n kd th el) (hev : fe_ev n kd ev) (rl : fe_rl n kd ev th el us f1 f2) (is : fe_is n sz op rs fi se) (hk : k ≤ 3) {post : Int64 → SY → Prop} {v1 v2 v3 : Int32}
    (h0 : ¬ (∃ b v, b < n ∧ v < 6 ∧ v1 = nI b ∧ v2 = nI v) → post fz_N ((nI n), (nI k), ym, yr, yb, yl, sz, op, rs, fi, se, kd, us, f1, f2, yv, nd, ru, eg, yg, nw, yo, yw))
    (h1 : ∀ b v, b < n → v < 6 → v1 = nI b → v2 = nI v → ∀ p yg' nw' yo', fz_so sz kd ev th el op rs fi se n (fz_p0 n k) p → post (fz_va sz op rs fi se p b v v3) ((nI n), (nI k), ym, yr, yb, yl, sz, op, rs, fi, se, kd, us, f1, f2, yv, nd, ru, eg, yg', nw', yo', yw)) : wpY_value post ((nI n), (nI k), ym, yr, yb, yl, sz, op, rs, fi, se, kd, us, f1, f2, yv, nd, ru, eg, yg, nw, yo, yw) v1 v2 v3 := by
  unfold wpY_value
  have hn := ok.1
  refine ys_out n (by omega) (fun z => br_f (by decide) (h0 (fun ⟨b, v, hb, hv, eb, ev⟩ => z b hb eb))) (fun b hb eb => br_t rfl ?_)
  refine ys_out 6 (by decide) (fun z => br_f (by decide) (h0 (fun ⟨b, v, hb, hv, eb, ev⟩ => z v hv ev))) (fun v hv ev1 => br_t rfl ?_)
  refine yv_sol ok hev rl is hk (fun p yg' nw' yo' hso ag iv => ?_)
  have h1' := fun nw'' => h1 b v hb hv eb ev1 p yg' nw'' yo' hso
  subst eb
  subst ev1
  have c : (nI b).toNatClampNeg = b := nI_clamp (by omega)
  have cv : (nI v).toNatClampNeg = v := nI_clamp (by omega)
  have c6 : (nI (6 * b + v)).toNatClampNeg = 6 * b + v := nI_clamp (by omega)
  unfold fz_va at h1'
  refine ⟨vp_in_nI (by omega) (by omega), ?_⟩
  cases hpb : p.2 b
  · rw [if_neg (by rw [hpb]; decide)] at h1'
    exact br_t (by rw [c]; exact (ag.2 b (by omega)).2 hpb) (h1' nw')
  · rw [if_pos hpb] at h1'
    refine br_f (by rw [c, (ag.2 b (by omega)).1 hpb]; decide) ?_
    by_cases e3 : v3 = 0
    · rw [if_pos e3] at h1'
      refine br_t e3 ⟨by rw [yv_6]; exact vp_in_nI (by omega) (by omega), ?_⟩
      rw [yv_6, c6, ag.1 _ (by omega)]
      exact h1' nw'
    · rw [if_neg e3] at h1'
      refine br_f e3 (yv_go hn is (B := p.1) hb (fun v hv => ag.1 _ (by omega)) ((iv b).1 hpb).2 (fun nw2 hen => ⟨vp_in_nI (by omega) (by omega), ?_⟩))
      rw [cv, hen v hv]
      exact h1' nw2
end
