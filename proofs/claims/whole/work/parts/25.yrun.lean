section
variable {n k : Nat} {ym yr yb yl : Int32} {sz kd ev th el op rs fi se us f1 f2 yv nd ru eg yo yw : Nat → Int32} {yg nw : Nat → Int64} {A C : Int32} {R : Nat × ((Nat → Int32) × Int32) × Nat}
theorem yr_274 {post : Int32 → SY → Prop}
    {J81 : Int32 → Int32 → Int32 → Int32 → Int32 → (Nat → Int32) → (Nat → Int32) → (Nat → Int32) → (Nat → Int32) → (Nat → Int32) → (Nat → Int32) → (Nat → Int32) → (Nat → Int32) → (Nat → Int32) → (Nat → Int32) → (Nat → Int32) → (Nat → Int32) → (Nat → Int32) → (Nat → Int64) → (Nat → Int64) → (Nat → Int32) → (Nat → Int32) → Prop}
    {J118 : Int32 → Int32 → (Nat → Int32) → (Nat → Int32) → (Nat → Int32) → (Nat → Int32) → (Nat → Int32) → (Nat → Int32) → (Nat → Int32) → (Nat → Int32) → (Nat → Int32) → (Nat → Int32) → (Nat → Int32) → (Nat → Int32) → (Nat → Int32) → (Nat → Int64) → (Nat → Int64) → (Nat → Int32) → (Nat → Int32) → Prop}
    {x4 x5 z0 : Int32} {q v : Nat} (hq : q < 64) (hv : v < 6) (ev2 : rs q = nI v) (hJ : J118 x4 (nI (q + 1)) sz op rs fi se kd us f1 f2 yv nd ru eg yg nw yo (upd yw v z0)) : wY_run_274 post J81 J118 A C x4 x5 (nI q) z0 (nI n) (nI k) ym yr yb yl sz op rs fi se kd us f1 f2 yv nd ru eg yg nw yo yw := by
  have c : (nI q).toNatClampNeg = q := nI_clamp (by omega)
  refine ⟨vp_in_nI hq (by omega), by rw [c, ev2]; exact vp_in_nI (by omega) (by omega), ?_⟩
  intro y ey
  rw [c, ev2, nI_clamp (by omega)] at ey
  subst ey
  exact nm_r (nI_1 q) hJ
theorem yr_118 (ok : fe_ok n kd th el) (hev : fe_ev n kd ev) (rl : fe_rl n kd ev th el us f1 f2) (is : fe_is n sz op rs fi se) {post : Int32 → SY → Prop}
    {J81 : Int32 → Int32 → Int32 → Int32 → Int32 → (Nat → Int32) → (Nat → Int32) → (Nat → Int32) → (Nat → Int32) → (Nat → Int32) → (Nat → Int32) → (Nat → Int32) → (Nat → Int32) → (Nat → Int32) → (Nat → Int32) → (Nat → Int32) → (Nat → Int32) → (Nat → Int32) → (Nat → Int64) → (Nat → Int64) → (Nat → Int32) → (Nat → Int32) → Prop}
    {x : Nat} {s : (Nat → Int32) × Int32} (hx : x < n) (hw : ∀ v, v < 6 → yw v = s.1 v)
    (h0 : kd x = 0 → ∀ yw', J81 (fv_bl sz op rs fi se A C x s).2 (-1) ((fv_bl sz op rs fi se A C x s).1 (ev x).toNatClampNeg) yb yl sz op rs fi se kd us f1 f2 yv nd ru eg yg nw yo yw')
    (h1 : ¬ kd x = 0 → ∀ yw', (∀ v, v < 6 → yw' v = (fv_bl sz op rs fi se A C x s).1 v) → J81 (fv_bl sz op rs fi se A C x s).2 (nI (fv_nx kd ev th el x (fv_bl sz op rs fi se A C x s).1)) yr yb yl sz op rs fi se kd us f1 f2 yv nd ru eg yg nw yo yw') :
    ∃ m, wY_run_118 post J81 A C (nI x) (nI n) (nI k) ym yr yb yl m s.2 (nI (4 * x)) sz op rs fi se kd us f1 f2 yv nd ru eg yg nw yo yw := by
  have hn := ok.1
  obtain ⟨l, hl, es, cs, hin⟩ := fe_ix is hx
  have c : (nI x).toNatClampNeg = x := nI_clamp (by omega)
  have vi : vp_in (nI x) 16 := vp_in_nI (by omega) (by omega)
  unfold fv_bl at h0 h1
  rw [cs] at h0 h1
  have e5 : ((4 : Int32) * nI x) + sz (nI x).toNatClampNeg = nI (4 * x + l) := by rw [ys_4, c, es, nI_add]
  have L : ∀ m i yw' it', i ≤ l → l - i < m → (∀ v, v < 6 → yw' v = (fv_th op rs fi se A C (4 * x) s i).1 v) → it' = (fv_th op rs fi se A C (4 * x) s i).2 →
      wY_run_118 post J81 A C (nI x) (nI n) (nI k) ym yr yb yl m it' (nI (4 * x + i)) sz op rs fi se kd us f1 f2 yv nd ru eg yg nw yo yw' := by
    intro m
    induction m with
    | zero => intro i yw' it' _ h; omega
    | succ m ih =>
      intro i yw' it' hi hm g1 g2
      by_cases e : i = l
      · subst e
        subst g2
        refine ⟨vi, br_t (by rw [e5]; exact Int32.le_refl _) ⟨vi, ?_⟩⟩
        unfold fv_nx at h1
        refine fe_cs ok hx (fun k0 => ?_) (fun t k1 _ ht e1 => ?_) (fun t t' k2 _ ht e1 _ ht' e2 => ?_)
        · obtain ⟨v, hv, e3⟩ := hev x hx (by rw [k0]; decide)
          have eu : us x = nI v := ((rl x hx).2.1 (by rw [k0]; decide)).trans e3
          have cv : (nI v).toNatClampNeg = v := nI_clamp (by omega)
          have h0' := h0 k0 yw'
          rw [e3, cv] at h0'
          refine br_t (by rw [c]; exact k0) ⟨vi, by rw [c, eu]; exact vp_in_nI (by omega) (by omega), ?_⟩
          intro y ey
          rw [c, eu, cv, g1 v hv] at ey
          subst ey
          exact h0'
        · have h1' := h1 (by rw [k1]; decide) yw' g1
          rw [if_neg (fun z => by rw [k1] at z; exact absurd z.1 (by decide)), e1, nI_clamp (by omega)] at h1'
          have ef : f1 x = nI t := ((rl x hx).2.2.1 (by rw [k1]; decide)).trans e1
          refine br_f (by rw [c, k1]; decide) ⟨vi, br_t (by rw [c]; exact k1) ⟨vi, ?_⟩⟩
          intro y ey
          rw [c, ef] at ey
          subst ey
          exact h1'
        · obtain ⟨v, hv, e3⟩ := hev x hx (by rw [k2]; decide)
          have eu : us x = nI v := ((rl x hx).2.1 (by rw [k2]; decide)).trans e3
          have cv : (nI v).toNatClampNeg = v := nI_clamp (by omega)
          have h1' := h1 (by rw [k2]; decide) yw' g1
          have ef : f1 x = nI t := ((rl x hx).2.2.1 (by rw [k2]; decide)).trans e1
          have eg2 : f2 x = nI t' := ((rl x hx).2.2.2 k2).trans e2
          rw [e3, cv, e1, e2, nI_clamp (by omega), nI_clamp (by omega)] at h1'
          refine br_f (by rw [c, k2]; decide) ⟨vi, br_f (by rw [c, k2]; decide) ⟨vi, by rw [c, eu]; exact vp_in_nI (by omega) (by omega), ?_⟩⟩
          by_cases z : (fv_th op rs fi se A C (4 * x) s i).1 v = 0
          · rw [if_pos ⟨k2, z⟩] at h1'
            refine br_t (by rw [c, eu, cv, g1 v hv]; exact z) ⟨vi, ?_⟩
            intro y ey
            rw [c, eg2] at ey
            subst ey
            exact h1'
          · rw [if_neg (fun w => z w.2)] at h1'
            refine br_f (by rw [c, eu, cv, g1 v hv]; exact z) ⟨vi, ?_⟩
            intro y ey
            rw [c, ef] at ey
            subst ey
            exact h1'
      · obtain ⟨⟨o, ho, eo, ha, hc⟩, v, hv, ev2⟩ := hin i (by omega)
        have hil : i < l := by clear ha hc; omega
        have hq : 4 * x + i < 64 := by clear ha hc; omega
        have hm2 : l - (i + 1) < m := by clear ha hc; omega
        have c4 : (nI (4 * x + i)).toNatClampNeg = 4 * x + i := nI_clamp (by omega)
        have v4 : vp_in (nI (4 * x + i)) 64 := vp_in_nI (by omega) (by omega)
        have e1 : (fv_th op rs fi se A C (4 * x) s (i + 1)).1 = upd (fv_th op rs fi se A C (4 * x) s i).1 v (fv_v (op (4 * x + i)) (fi (4 * x + i)) (se (4 * x + i)) (fv_th op rs fi se A C (4 * x) s i).1 (fv_th op rs fi se A C (4 * x) s i).2 A C) := by
          show upd _ (rs (4 * x + i)).toNatClampNeg _ = _
          rw [ev2, nI_clamp (by omega)]
        have e2 : (fv_th op rs fi se A C (4 * x) s (i + 1)).2 = if op (4 * x + i) = 7 then (fv_th op rs fi se A C (4 * x) s i).2 + 1 else (fv_th op rs fi se A C (4 * x) s i).2 := rfl
        have nx : ∀ w it2, w = fv_v (op (4 * x + i)) (fi (4 * x + i)) (se (4 * x + i)) (fv_th op rs fi se A C (4 * x) s i).1 (fv_th op rs fi se A C (4 * x) s i).2 A C → it2 = (fv_th op rs fi se A C (4 * x) s (i + 1)).2 →
            wY_run_274 post J81 (wY_run_118 post J81 A C (nI x) (nI n) (nI k) ym yr yb yl m) A C it2 (nI x) (nI (4 * x + i)) w (nI n) (nI k) ym yr yb yl sz op rs fi se kd us f1 f2 yv nd ru eg yg nw yo yw' := by
          intro w it2 hw2 hi2
          refine yr_274 hq hv ev2 (ih (i + 1) _ it2 hil hm2 (fun u hu => ?_) hi2)
          rw [e1]
          by_cases eu : u = v
          · rw [eu, pk_us, pk_us]; exact hw2
          · rw [pk_un eu, pk_un eu]; exact g1 u hu
        unfold fv_v at nx
        rw [eo] at nx e2
        have n0 : ¬ o = 0 → ¬ nI o = 0 := fun o0 z => o0 ((nI_eq (b := 0) (by omega) (by decide)).mp z)
        have n1 : ¬ o = 1 → ¬ nI o = 1 := fun o1 z => o1 ((nI_eq (b := 1) (by omega) (by decide)).mp z)
        have n7 : ¬ o = 7 → ¬ nI o = 7 := fun o7 z => o7 ((nI_eq (b := 7) (by omega) (by decide)).mp z)
        refine ⟨vi, br_f (by rw [e5]; exact nI_ge (by omega) (by omega)) ⟨v4, ?_⟩⟩
        by_cases o0 : o = 0
        · have z0 : nI o = 0 := by rw [o0]; rfl
          have z7 : ¬ nI o = 7 := n7 (by omega)
          rw [if_neg z7] at e2
          refine br_t (by rw [c4, eo]; exact z0) ⟨v4, br_t (by rw [c4, eo, o0]; decide) ⟨v4, br_t (by rw [c4, eo]; exact z0) ⟨v4, ?_⟩⟩⟩
          rw [c4]
          refine nx _ _ ?_ (by rw [e2, g2])
          rw [if_neg z7, if_pos z0]
        · refine br_f (by rw [c4, eo]; exact n0 o0) ⟨v4, ?_⟩
          by_cases o7 : o = 7
          · have z7 : nI o = 7 := by rw [o7]; rfl
            rw [if_pos z7] at e2
            refine br_t (by rw [c4, eo]; exact z7) ⟨v4, br_f (by rw [c4, eo, o7]; decide) ⟨v4, br_t (by rw [c4, eo, o7]; decide) ⟨v4, br_f (by rw [c4, eo]; exact n0 o0) ⟨v4, br_t (by rw [c4, eo]; exact z7) (nm_e (nx _ _ ?_ (by rw [e2, g2])))⟩⟩⟩⟩
            rw [if_pos z7, g2]
          · have z7 : ¬ nI o = 7 := n7 o7
            rw [if_neg z7] at e2
            obtain ⟨wa, hwa, ea⟩ := ha (by omega) (by omega)
            have ca : (nI wa).toNatClampNeg = wa := nI_clamp (by omega)
            refine br_f (by rw [c4, eo]; exact z7) ⟨v4, by rw [c4, ea]; exact vp_in_nI (by omega) (by omega), ?_⟩
            rw [c4, ea, ca, g1 wa hwa]
            by_cases o1 : o = 1
            · have z1 : nI o = 1 := by rw [o1]; rfl
              refine ⟨v4, br_t (by rw [c4, eo, o1]; decide) ⟨v4, br_f (by rw [c4, eo]; exact n0 o0) ⟨v4, br_f (by rw [c4, eo]; exact z7) ⟨v4, ?_⟩⟩⟩⟩
              rw [c4, eo, o1]
              refine yv_rk1 (nx _ _ ?_ (by rw [e2, g2]))
              rw [if_neg z7, if_neg (n0 o0), if_pos z1, ea, ca]
            · obtain ⟨wb, hwb, eb⟩ := hc (by omega) (by omega)
              have cb : (nI wb).toNatClampNeg = wb := nI_clamp (by omega)
              refine ⟨v4, br_f (by rw [c4, eo]; exact nI_ge (a := 1) (by omega) (by omega)) ⟨v4, br_f (by rw [c4, eo]; exact nI_ge (b := 7) (by omega) (by decide)) ⟨v4, by rw [c4, eb]; exact vp_in_nI (by omega) (by omega), ?_⟩⟩⟩
              rw [c4, eb, cb, g1 wb hwb]
              refine ⟨v4, br_f (by rw [c4, eo]; exact n0 o0) ⟨v4, br_f (by rw [c4, eo]; exact z7) ⟨v4, ?_⟩⟩⟩
              rw [c4, eo]
              refine yv_rk (by omega) (by omega) (nx _ _ ?_ (by rw [e2, g2]))
              rw [if_neg z7, if_neg (n0 o0), if_neg (n1 o1), ea, ca, eb, cb]
  exact ⟨l + 1, L (l + 1) 0 yw s.2 (by omega) (by omega) hw rfl⟩
theorem yr_run (ok : fe_ok n kd th el) (hev : fe_ev n kd ev) (rl : fe_rl n kd ev th el us f1 f2) (is : fe_is n sz op rs fi se) (hk : k ≤ 3) {post : Int32 → SY → Prop} {a b c : Int32} (h0 : n = 0 → post (-1) ((nI n), (nI k), ym, yr, yb, yl, sz, op, rs, fi, se, kd, us, f1, f2, yv, nd, ru, eg, yg, nw, yo, yw))
    (hR : R = fv_go sz kd ev th el op rs fi se a b 199 0 (fv_bl sz op rs fi se a b 0 (fv_s0 k a b c, 0)))
    (hp : 0 < n → ∀ yw', post (if kd R.1 = 0 then 0 else 1) ((nI n), (nI k), ym, (if kd R.1 = 0 then R.2.1.1 (ev R.1).toNatClampNeg else 0), (nI (200 - R.2.2)), (nI R.1), sz, op, rs, fi, se, kd, us, f1, f2, yv, nd, ru, eg, yg, nw, yo, yw')) : wpY_run post ((nI n), (nI k), ym, yr, yb, yl, sz, op, rs, fi, se, kd, us, f1, f2, yv, nd, ru, eg, yg, nw, yo, yw) a b c := by
  have hn := ok.1
  have L : ∀ m g x s yw' yl', g ≤ 199 → g + 2 < m → x < n → (∀ v, v < 6 → yw' v = s.1 v) → R = fv_go sz kd ev th el op rs fi se a b g x (fv_bl sz op rs fi se a b x s) →
      wY_run_81 post a b (nI n) (nI k) ym m s.2 (nI x) 0 (nI (199 - g)) yl' sz op rs fi se kd us f1 f2 yv nd ru eg yg nw yo yw' := by
    intro m
    induction m with
    | zero => intro g x s yw' yl' _ h; omega
    | succ m ih =>
      intro g x s yw' yl' hg hm hx h1 h3
      refine br_f (nI_pos (by omega)) (br_f (nI_ge (b := 200) (by omega) (by decide)) ?_)
      intro y ey
      rw [nI_1] at ey
      subst ey
      refine nm_r (ys_4 x) ?_
      have e4 : 199 - g + 1 = 200 - g := by omega
      rw [e4]
      refine yr_118 ok hev rl is hx h1 (fun k0 yw2 => ?_) (fun k0 yw2 g1 => ?_)
      · have hR2 : R = (x, fv_bl sz op rs fi se a b x s, g) := by
          rw [h3]
          cases g with
          | zero => rfl
          | succ g => exact if_pos k0
        cases m with
        | zero => omega
        | succ m =>
          subst hR2
          have hp := hp (by omega)
          dsimp only at hp
          rw [if_pos k0, if_pos k0] at hp
          exact br_t (by decide) (br_t (by decide) (hp yw2))
      · cases g with
        | zero =>
          have hR2 : R = (x, fv_bl sz op rs fi se a b x s, 0) := h3
          cases m with
          | zero => omega
          | succ m =>
            subst hR2
            have hp := hp (by omega)
            dsimp only at hp
            rw [if_neg k0, if_neg k0] at hp
            have hl := fv_nxl (ev := ev) ok hx k0 (fv_bl sz op rs fi se a b x s).1
            exact br_f (nI_pos (by omega)) (br_t (by decide) (br_f (nI_pos (by omega)) (hp yw2)))
        | succ g =>
          have e3 : fv_go sz kd ev th el op rs fi se a b (g + 1) x (fv_bl sz op rs fi se a b x s) = fv_go sz kd ev th el op rs fi se a b g (fv_nx kd ev th el x (fv_bl sz op rs fi se a b x s).1) (fv_bl sz op rs fi se a b (fv_nx kd ev th el x (fv_bl sz op rs fi se a b x s).1) (fv_bl sz op rs fi se a b x s)) := if_neg k0
          rw [e3] at h3
          have hl := fv_nxl (ev := ev) ok hx k0 (fv_bl sz op rs fi se a b x s).1
          have e5 : 200 - (g + 1) = 199 - g := by omega
          rw [e5]
          exact ih g _ _ yw2 (nI x) (by omega) (by omega) hl g1 h3
  have L0 : 0 < n → ∀ m v yw', v ≤ 6 → 6 - v < m → (∀ w, w < v → yw' w = fv_s0 k a b c w) → wY_run_12 post a b c (nI n) (nI k) ym yr yb yl m (nI v) sz op rs fi se kd us f1 f2 yv nd ru eg yg nw yo yw' := by
    intro hn0 m
    induction m with
    | zero => intro v yw' _ h; omega
    | succ m ih =>
      intro v yw' hv hm h1
      by_cases e : v = 6
      · subst e
        exact br_t (by decide) ⟨202, L 202 199 0 (fv_s0 k a b c, 0) yw' yl (by omega) (by omega) hn0 h1 hR⟩
      · have cv : (nI v).toNatClampNeg = v := nI_clamp (by omega)
        have vv : vp_in (nI v) 6 := vp_in_nI (by omega) (by omega)
        have nx : ∀ w : Int32, w = fv_s0 k a b c v → ∀ y, y = upd yw' (nI v).toNatClampNeg w → wY_run_12 post a b c (nI n) (nI k) ym yr yb yl m (nI (v + 1)) sz op rs fi se kd us f1 f2 yv nd ru eg yg nw yo y := by
          intro w hw y ey
          rw [cv] at ey
          subst ey
          refine ih (v + 1) _ (by omega) (by omega) (fun u hu => ?_)
          by_cases eu : u = v
          · rw [eu, pk_us]; exact hw
          · rw [pk_un eu]; exact h1 u (by omega)
        unfold fv_s0 at nx
        refine br_f (nI_ge (b := 6) (by omega) (by decide)) ?_
        by_cases q : k ≤ v
        · rw [if_pos q] at nx
          exact br_f (nI_nlt q (by omega)) ⟨vv, fun y ey => nm_r (nI_1 v) (nx 0 rfl y ey)⟩
        · rw [if_neg q] at nx
          refine br_t (nI_lt (by omega) (by omega)) ?_
          by_cases v0 : v = 0
          · rw [if_pos v0] at nx
            exact br_t (by rw [v0]; rfl) ⟨vv, fun y ey => nm_r (nI_1 v) (nx a rfl y ey)⟩
          · rw [if_neg v0] at nx
            refine br_f (nI_ne0 (by omega) (by omega)) ?_
            by_cases v1 : v = 1
            · rw [if_pos v1] at nx
              exact br_t (by rw [v1]; rfl) ⟨vv, fun y ey => nm_r (nI_1 v) (nx b rfl y ey)⟩
            · rw [if_neg v1] at nx
              exact br_f (fun z => v1 ((nI_eq (b := 1) (by omega) (by decide)).mp z)) ⟨vv, fun y ey => nm_r (nI_1 v) (nx c rfl y ey)⟩
  by_cases e : n = 0
  · exact br_t (by rw [e]; rfl) (h0 e)
  · exact br_f (nI_ne0 (by omega) (by omega)) ⟨7, L0 (by omega) 7 0 yw (by omega) (by omega) (fun w hw => absurd hw (Nat.not_lt_zero w))⟩
end
