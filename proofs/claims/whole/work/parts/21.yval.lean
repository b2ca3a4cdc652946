theorem yv_6 (b v : Nat) : 6 * nI b + nI v = nI (6 * b + v) := by
  show nI 6 * nI b + nI v = _
  rw [pk_mul, nI_add]
theorem yv_n0 : vp_nar .boolean 0 = 0 := by rfl
theorem yv_n1 : vp_nar .boolean 1 = 1 := by rfl
theorem yv_rk1 {post : Int32 → Prop} {x y : Int32} (hp : post x) : wpY_reckoned post 1 x y :=
  br_f (by decide) (br_f (by decide) (br_t rfl hp))
theorem yv_rk {post : Int32 → Prop} {o : Nat} {x y : Int32} (h2 : 2 ≤ o) (h6 : o ≤ 6) (hp : post (fz_w (nI o) x y)) : wpY_reckoned post (nI o) x y := by
  unfold fz_w at hp
  rcases xv_o h2 h6 with e | e | e | e | e
  · subst e
    rw [if_pos (by decide)] at hp
    exact br_f (by decide) (br_f (by decide) (br_f (by decide) (br_t (by decide) hp)))
  · subst e
    rw [if_neg (by decide), if_pos (by decide)] at hp
    exact br_f (by decide) (br_f (by decide) (br_f (by decide) (br_f (by decide) (br_t (by decide) hp))))
  · subst e
    rw [if_neg (by decide), if_neg (by decide), if_pos (by decide)] at hp
    exact br_f (by decide) (br_f (by decide) (br_f (by decide) (br_f (by decide) (br_f (by decide) (br_t (by decide) hp)))))
  · subst e
    rw [if_neg (by decide), if_neg (by decide), if_neg (by decide), if_pos (by decide)] at hp
    refine br_f (by decide) (br_f (by decide) (br_f (by decide) (br_f (by decide) (br_f (by decide) (br_f (by decide) (br_t (by decide) (br_c (fun z => ?_) (fun z => ?_))))))))
    · rw [if_neg (Int32.not_lt.mpr z)] at hp
      exact hp
    · rw [if_pos (Int32.not_le.mp z)] at hp
      exact hp
  · subst e
    rw [if_neg (by decide), if_neg (by decide), if_neg (by decide), if_neg (by decide)] at hp
    refine br_f (by decide) (br_t (by decide) (br_c (fun z => ?_) (fun z => ⟨z, ?_⟩)))
    · rw [if_pos z] at hp
      exact hp
    · rw [if_neg z] at hp
      exact hp
theorem yv_jn {post : Int64 → Prop} {x y : Int64} (hy : ¬ y = fz_N) (hp : post (fz_j x y)) : wpY_joined post x y := by
  unfold fz_j at hp
  by_cases h1 : x = fz_N
  · rw [if_pos (Or.inl h1)] at hp
    exact br_t h1 hp
  · refine br_f h1 (br_f hy ?_)
    by_cases h2 : x = y
    · rw [if_pos (Or.inr h2), ← h2] at hp
      exact br_t h2 hp
    · rw [if_neg (fun z => z.elim h1 h2)] at hp
      exact br_f h2 hp
theorem yv_cp {x : Int64} (h : fz_ok x) (n : ¬ x = fz_V) : x.toInt32.toInt64 = x := by
  obtain ⟨c, e⟩ := h.resolve_left n
  rw [e, Int32.toInt32_toInt64]
/-- what the reference holds of p -/
def yv_ag (p : (Nat → Int64) × (Nat → Bool)) (yg : Nat → Int64) (yo : Nat → Int32) : Prop := (∀ j, j < 96 → yg j = p.1 j) ∧ (∀ i, i < 16 → (p.2 i = true → yo i = 1) ∧ (p.2 i = false → yo i = 0))
section
variable {n k : Nat} {ym yr yb yl : Int32} {sz kd ev th el op rs fi se us f1 f2 yv nd ru eg yo yw : Nat → Int32} {yg nw : Nat → Int64}
theorem yv_vs {post : Int64 → Prop} {q : Nat} {nv : Nat → Int64} (hq : q < 64) (h : fe_i1 op rs fi se q) (hw : ∀ v, v < 6 → nw v = nv v) (hok : ∀ v, fz_ok (nv v)) (hp : post (fz_v (op q) (fi q) (se q) nv)) : wpY_set post ((nI n), (nI k), ym, yr, yb, yl, sz, op, rs, fi, se, kd, us, f1, f2, yv, nd, ru, eg, yg, nw, yo, yw) (nI q) := by
  obtain ⟨⟨o, ho, eo, ha, hc⟩, _⟩ := h
  have c : (nI q).toNatClampNeg = q := nI_clamp (by omega)
  have vi : vp_in (nI q) 64 := vp_in_nI hq (by omega)
  unfold fz_v at hp
  rw [eo] at hp
  by_cases o7 : o = 7
  · subst o7
    rw [if_pos (by decide)] at hp
    exact ⟨vi, br_t (by rw [c, eo]; rfl) hp⟩
  have n7 : ¬ nI o = 7 := fun z => o7 ((nI_eq (b := 7) (by omega) (by decide)).mp z)
  rw [if_neg n7] at hp
  refine ⟨vi, br_f (by rw [c, eo]; exact n7) ⟨vi, ?_⟩⟩
  by_cases o0 : o = 0
  · subst o0
    rw [if_pos (by decide)] at hp
    refine br_t (by rw [c, eo]; rfl) ⟨vi, ?_⟩
    rw [c]
    exact hp
  have n0 : ¬ nI o = 0 := fun z => o0 ((nI_eq (b := 0) (by omega) (by decide)).mp z)
  rw [if_neg n0] at hp
  obtain ⟨wa, hwa, ea⟩ := ha (by omega) (by omega)
  have ca : (nI wa).toNatClampNeg = wa := nI_clamp (by omega)
  rw [ea, ca] at hp
  refine br_f (by rw [c, eo]; exact n0) ⟨vi, by rw [c, ea]; exact vp_in_nI (by omega) (by omega), ?_⟩
  intro x ex
  rw [c, ea, ca, hw wa hwa] at ex
  subst ex
  refine ⟨vi, ?_⟩
  by_cases o1 : o = 1
  · subst o1
    rw [if_pos (by decide)] at hp
    refine br_t (by rw [c, eo]; rfl) ⟨vi, br_f (by rw [c, eo]; decide) ?_⟩
    by_cases z : nv wa = fz_V
    · rw [z] at hp
      exact br_t z hp
    · refine br_f z (br_f z ⟨vi, ?_⟩)
      rw [c, eo]
      refine yv_rk1 ?_
      rw [yv_cp (hok wa) z]
      exact hp
  have n1 : ¬ nI o = 1 := fun z => o1 ((nI_eq (b := 1) (by omega) (by decide)).mp z)
  rw [if_neg n1] at hp
  obtain ⟨wb, hwb, eb⟩ := hc (by omega) (by omega)
  have cb : (nI wb).toNatClampNeg = wb := nI_clamp (by omega)
  rw [eb, cb] at hp
  refine br_f (by rw [c, eo]; exact n1) ⟨vi, by rw [c, eb]; exact vp_in_nI (by omega) (by omega), ?_⟩
  rw [c, eb, cb, hw wb hwb]
  have w96 : (¬ (nI o = 4 ∧ (nv wa = 0 ∨ nv wb = 0))) → wY_set_96 post (nI q) (nv wa) (nv wb) (nI n) (nI k) ym yr yb yl sz op rs fi se kd us f1 f2 yv nd ru eg yg nw yo yw := by
    intro nz
    rw [if_neg nz] at hp
    by_cases z1 : nv wa = fz_V
    · rw [if_pos (Or.inl z1)] at hp
      exact br_t z1 hp
    · by_cases z2 : nv wb = fz_V
      · rw [if_pos (Or.inr z2)] at hp
        exact br_f z1 (br_t z2 hp)
      · rw [if_neg (fun z => z.elim z1 z2)] at hp
        refine br_f z1 (br_f z2 ⟨vi, ?_⟩)
        rw [c, eo]
        exact yv_rk (by omega) (by omega) hp
  by_cases o4 : nI o = 4
  · refine ⟨vi, br_t (by rw [c, eo]; exact o4) ?_⟩
    by_cases z1 : nv wa = 0
    · rw [if_pos ⟨o4, Or.inl z1⟩] at hp
      exact br_t z1 hp
    · refine br_f z1 ?_
      by_cases z2 : nv wb = 0
      · rw [if_pos ⟨o4, Or.inr z2⟩] at hp
        exact br_t z2 hp
      · exact br_f z2 (w96 (fun z => z.2.elim z1 z2))
  · exact ⟨vi, br_f (by rw [c, eo]; exact o4) (w96 (fun z => o4 z.1))⟩
theorem yv_go (hn : n ≤ 16) (is : fe_is n sz op rs fi se) {post : SY → Prop} {b : Nat} {B : Nat → Int64} (hb : b < n) (hB : ∀ v, v < 6 → yg (6 * b + v) = B (6 * b + v)) (hok : ∀ v, v < 6 → fz_ok (B (6 * b + v)))
    (hp : ∀ nw', (∀ v, v < 6 → nw' v = fz_en sz op rs fi se B b v) → post ((nI n), (nI k), ym, yr, yb, yl, sz, op, rs, fi, se, kd, us, f1, f2, yv, nd, ru, eg, yg, nw', yo, yw)) : wpY_go post ((nI n), (nI k), ym, yr, yb, yl, sz, op, rs, fi, se, kd, us, f1, f2, yv, nd, ru, eg, yg, nw, yo, yw) (nI b) := by
  obtain ⟨s, hs, es, cs, hin⟩ := fe_ix is hb
  have c : (nI b).toNatClampNeg = b := nI_clamp (by omega)
  have vi : vp_in (nI b) 16 := vp_in_nI (by omega) (by omega)
  unfold fz_en at hp
  rw [cs] at hp
  have e5 : ((4 : Int32) * nI b) + sz (nI b).toNatClampNeg = nI (4 * b + s) := by rw [ys_4, c, es, nI_add]
  have L2 : ∀ m i nw', i ≤ s → s - i < m → (∀ v, v < 6 → nw' v = fz_th op rs fi se (4 * b) (fz_bg B b) i v) → wY_go_35 post (nI b) (nI n) (nI k) ym yr yb yl m (nI (4 * b + i)) sz op rs fi se kd us f1 f2 yv nd ru eg yg nw' yo yw := by
    intro m
    induction m with
    | zero => intro i nw' _ h; omega
    | succ m ih =>
      intro i nw' hi hm h1
      by_cases e : i = s
      · subst e
        exact ⟨vi, br_t (by rw [e5]; exact Int32.le_refl _) (hp nw' h1)⟩
      · obtain ⟨hcl, v, hv, ev2⟩ := hin i (by omega)
        clear hcl
        have c4 : (nI (4 * b + i)).toNatClampNeg = 4 * b + i := nI_clamp (by omega)
        refine ⟨vi, br_f (by rw [e5]; exact nI_ge (by omega) (by omega)) (yv_vs (by omega) (hin i (by omega)) h1 (fz_thok (fz_bgok hok) i) ⟨vp_in_nI (by omega) (by omega), ?_, ?_⟩)⟩
        · rw [c4, ev2]
          exact vp_in_nI (by omega) (by omega)
        · intro y ey
          rw [c4, ev2, nI_clamp (by omega)] at ey
          subst ey
          refine nm_r (nI_1 _) (ih (i + 1) _ (by omega) (by omega) (fun w hw => ?_))
          show vp_updL _ _ _ _ = vp_updL _ _ _ _
          rw [ev2, nI_clamp (by omega)]
          by_cases ew : w = v
          · rw [ew, pk_uLs, pk_uLs]
          · rw [pk_uLn ew, pk_uLn ew]
            exact h1 w hw
  have L1 : ∀ m v nw', v ≤ 6 → 6 - v < m → (∀ w, w < v → nw' w = B (6 * b + w)) → wY_go_2 post (nI b) (nI n) (nI k) ym yr yb yl m (nI v) sz op rs fi se kd us f1 f2 yv nd ru eg yg nw' yo yw := by
    intro m
    induction m with
    | zero => intro i nw' _ h; omega
    | succ m ih =>
      intro v nw' hv hm h1
      by_cases e : v = 6
      · subst e
        refine br_t (by decide) (nm_r (ys_4 b) ⟨s + 1, L2 (s + 1) 0 nw' (by omega) (by omega) (fun w hw => ?_)⟩)
        show nw' w = fz_bg B b w
        unfold fz_bg
        rw [if_pos hw]
        exact h1 w hw
      · have c6 : (nI (6 * b + v)).toNatClampNeg = 6 * b + v := nI_clamp (by omega)
        have cv : (nI v).toNatClampNeg = v := nI_clamp (by omega)
        refine br_f (nI_ge (b := 6) (by omega) (by decide)) ⟨by rw [yv_6]; exact vp_in_nI (by omega) (by omega), vp_in_nI (by omega) (by omega), ?_⟩
        intro y ey
        rw [yv_6, c6, cv] at ey
        subst ey
        refine nm_r (nI_1 v) (ih (v + 1) _ (by omega) (by omega) (fun w hw => ?_))
        by_cases ew : w = v
        · rw [ew, pk_uLs]
          exact hB v (by omega)
        · rw [pk_uLn ew]
          exact h1 w (by omega)
  exact ⟨7, L1 7 0 nw (by omega) (by omega) (fun w hw => absurd hw (Nat.not_lt_zero w))⟩
theorem yv_ld (ok : fe_ok n kd th el) (hev : fe_ev n kd ev) (rl : fe_rl n kd ev th el us f1 f2) {post : Int32 → Prop} {b : Nat} {nv : Nat → Int64} (hb : b < n) (hw : ∀ v, v < 6 → nw v = nv v)
    (h0 : ¬ fz_lt kd b (nv (ev b).toNatClampNeg) → post 0) (h1 : fz_lt kd b (nv (ev b).toNatClampNeg) → post 1) : wpY_leads post ((nI n), (nI k), ym, yr, yb, yl, sz, op, rs, fi, se, kd, us, f1, f2, yv, nd, ru, eg, yg, nw, yo, yw) (nI b) 0 := by
  have hn := ok.1
  have c : (nI b).toNatClampNeg = b := nI_clamp (by omega)
  have vi : vp_in (nI b) 16 := vp_in_nI (by omega) (by omega)
  have hV : ¬ fz_V = 0 := by decide
  refine fe_cs ok hb (fun k0 => ?_) (fun t k1 _ ht e1 => ?_) (fun t t' k2 _ ht e1 _ ht' e2 => ?_)
  · exact ⟨vi, br_t (by rw [c]; exact k0) (h0 (fun z => fz_ltn z k0))⟩
  · exact ⟨vi, br_f (by rw [c, k1]; decide) (br_t rfl ⟨vi, br_t (by rw [c]; exact k1) ⟨vi, br_t (by rw [c]; exact k1) (h1 (Or.inl k1))⟩⟩)⟩
  · have n1 : ¬ kd b = 1 := by rw [k2]; decide
    obtain ⟨v, hv, e3⟩ := hev b hb n1
    have eu : us b = nI v := ((rl b hb).2.1 n1).trans e3
    have cv : (nI v).toNatClampNeg = v := nI_clamp (by omega)
    rw [e3, cv] at h0 h1
    refine ⟨vi, br_f (by rw [c, k2]; decide) (br_t rfl ⟨vi, br_f (by rw [c, k2]; decide) ⟨vi, by rw [c, eu]; exact vp_in_nI (by omega) (by omega), ?_⟩⟩)⟩
    rw [c, eu, cv, hw v hv]
    refine ⟨vi, br_f (by rw [c, k2]; decide) ?_⟩
    by_cases z : nv v = fz_V
    · exact br_t z (h1 (Or.inr ⟨k2, by rw [z]; exact hV⟩))
    · refine br_f z ?_
      by_cases q : nv v = 0
      · exact br_t q (br_f (by decide) (h0 (fun w => w.elim n1 (fun y => y.2 q))))
      · exact br_f q (br_t rfl (h1 (Or.inr ⟨k2, q⟩)))
theorem yv_l2 (ok : fe_ok n kd th el) (hev : fe_ev n kd ev) (rl : fe_rl n kd ev th el us f1 f2) {post : Int32 → Prop} {b : Nat} {nv : Nat → Int64} (hb : b < n) (hw : ∀ v, v < 6 → nw v = nv v)
    (h0 : ¬ fz_l2 kd b (nv (ev b).toNatClampNeg) → post 0) (h1 : fz_l2 kd b (nv (ev b).toNatClampNeg) → post 1) : wpY_leads post ((nI n), (nI k), ym, yr, yb, yl, sz, op, rs, fi, se, kd, us, f1, f2, yv, nd, ru, eg, yg, nw, yo, yw) (nI b) 1 := by
  have hn := ok.1
  have c : (nI b).toNatClampNeg = b := nI_clamp (by omega)
  have vi : vp_in (nI b) 16 := vp_in_nI (by omega) (by omega)
  refine fe_cs ok hb (fun k0 => ?_) (fun t k1 _ ht e1 => ?_) (fun t t' k2 _ ht e1 _ ht' e2 => ?_)
  · refine ⟨vi, br_t (by rw [c]; exact k0) (h0 (fun z => ?_))⟩
    have := z.1
    rw [k0] at this
    exact absurd this (by decide)
  · refine ⟨vi, br_f (by rw [c, k1]; decide) (br_f (by decide) ⟨vi, br_t (by rw [c]; exact k1) (h0 (fun z => ?_))⟩)⟩
    have := z.1
    rw [k1] at this
    exact absurd this (by decide)
  · have n1 : ¬ kd b = 1 := by rw [k2]; decide
    obtain ⟨v, hv, e3⟩ := hev b hb n1
    have eu : us b = nI v := ((rl b hb).2.1 n1).trans e3
    have cv : (nI v).toNatClampNeg = v := nI_clamp (by omega)
    rw [e3, cv] at h0 h1
    refine ⟨vi, br_f (by rw [c, k2]; decide) (br_f (by decide) ⟨vi, br_f (by rw [c, k2]; decide) ⟨vi, br_f (by rw [c, k2]; decide) ⟨vi, by rw [c, eu]; exact vp_in_nI (by omega) (by omega), ?_⟩⟩⟩)⟩
    rw [c, eu, cv, hw v hv]
    refine ⟨vi, br_f (by rw [c, k2]; decide) ?_⟩
    by_cases z : nv v = fz_V
    · exact br_t z (h1 ⟨k2, Or.inr z⟩)
    · refine br_f z ?_
      by_cases q : nv v = 0
      · exact br_t q (br_t rfl (h1 ⟨k2, Or.inl q⟩))
      · exact br_f q (br_f (by decide) (h0 (fun w => w.2.elim q z)))
theorem yv_wd {post : Int32 → SY → Prop} {t : Nat} {p : (Nat → Int64) × (Nat → Bool)} {nv : Nat → Int64} (ht : t < 16) (ag : yv_ag p yg yo) (hw : ∀ v, v < 6 → nw v = nv v) (hok : ∀ v, fz_ok (nv v))
    (hp : ∀ r yg' yo', (r = 0 ∨ r = 1) → yv_ag (fz_sp t nv p) yg' yo' → (r = 0 → fz_sp t nv p = p) → (r = 1 → fz_mu p < fz_mu (fz_sp t nv p)) → post r ((nI n), (nI k), ym, yr, yb, yl, sz, op, rs, fi, se, kd, us, f1, f2, yv, nd, ru, eg, yg', nw, yo', yw)) : wpY_widened post ((nI n), (nI k), ym, yr, yb, yl, sz, op, rs, fi, se, kd, us, f1, f2, yv, nd, ru, eg, yg, nw, yo, yw) (nI t) := by
  have hmu := fz_sp_mu (p := p) ht hok
  have ct : (nI t).toNatClampNeg = t := nI_clamp (by omega)
  have vt : vp_in (nI t) 16 := vp_in_nI (by omega) (by omega)
  have L : ∀ yo', (∀ i, i < 16 → ((fz_sp t nv p).2 i = true → yo' i = 1) ∧ ((fz_sp t nv p).2 i = false → yo' i = 0)) → ∀ m v ch yg', v ≤ 6 → 6 - v < m → (ch = 0 ∨ ch = 1) → (∀ w, w < v → yg' (6 * t + w) = fz_j (p.1 (6 * t + w)) (nv w)) → (∀ j, j < 96 → (j < 6 * t ∨ 6 * t + v ≤ j) → yg' j = p.1 j) →
      (ch = 0 ↔ (p.2 t = true ∧ ∀ w, w < v → fz_j (p.1 (6 * t + w)) (nv w) = p.1 (6 * t + w))) → wY_widened_24 post (nI t) (nI n) (nI k) ym yr yb yl m ch (nI v) sz op rs fi se kd us f1 f2 yv nd ru eg yg' nw yo' yw := by
    intro yo' hyo m
    induction m with
    | zero => intro v ch yg' _ h; omega
    | succ m ih =>
      intro v ch yg' hv hm hch h1 h2 h3
      by_cases e : v = 6
      · subst e
        refine br_t (by decide) ⟨by rcases hch with z | z <;> rw [z] <;> rfl, hp ch yg' yo' hch ⟨fun j hj => ?_, hyo⟩ (fun z => ?_) (fun z => hmu.2 ?_)⟩
        · unfold fz_sp
          dsimp only
          by_cases q : 6 * t ≤ j ∧ j < 6 * t + 6
          · rw [if_pos q]
            have := h1 (j - 6 * t) (by omega)
            have e2 : 6 * t + (j - 6 * t) = j := by omega
            rw [e2] at this
            exact this
          · rw [if_neg q]
            exact h2 j hj (by omega)
        · have z2 := h3.mp z
          exact fz_sp_eq z2.1 z2.2
        · apply Classical.byContradiction
          intro w
          have : ch = 0 := by
            refine h3.mpr ⟨?_, fun v hv => ?_⟩
            · cases hpt : p.2 t
              · exact absurd (Or.inl hpt) w
              · rfl
            · apply Classical.byContradiction
              intro w2
              exact w (Or.inr ⟨v, hv, w2⟩)
          rw [this] at z
          exact absurd z (by decide)
      · have c6 : (nI (6 * t + v)).toNatClampNeg = 6 * t + v := nI_clamp (by omega)
        have cv : (nI v).toNatClampNeg = v := nI_clamp (by omega)
        have v6 : vp_in (6 * nI t + nI v) 96 := by rw [yv_6]; exact vp_in_nI (by omega) (by omega)
        have ebg : yg' (6 * t + v) = p.1 (6 * t + v) := h2 _ (by omega) (by omega)
        have nx : ∀ ch' : Int32, (ch' = 0 ∨ ch' = 1) → (ch' = 0 ↔ (ch = 0 ∧ fz_j (p.1 (6 * t + v)) (nv v) = p.1 (6 * t + v))) →
            wY_widened_71 post (wY_widened_24 post (nI t) (nI n) (nI k) ym yr yb yl m) (nI t) ch' (nI v) (fz_j (p.1 (6 * t + v)) (nv v)) (nI n) (nI k) ym yr yb yl sz op rs fi se kd us f1 f2 yv nd ru eg yg' nw yo' yw := by
          intro ch' h4 h5
          refine ⟨v6, ?_⟩
          intro y ey
          rw [yv_6, c6] at ey
          subst ey
          refine nm_r (nI_1 v) (ih (v + 1) ch' _ (by omega) (by omega) h4 (fun w hw => ?_) (fun j hj hj2 => ?_) ?_)
          · by_cases ew : w = v
            · rw [ew, pk_uLs]
            · rw [pk_uLn (by omega)]
              exact h1 w (by omega)
          · rw [pk_uLn (by omega)]
            exact h2 j hj (by omega)
          · rw [h5, h3]
            constructor
            · rintro ⟨⟨z1, z2⟩, z3⟩
              refine ⟨z1, fun w hw => ?_⟩
              by_cases ew : w = v
              · rw [ew]; exact z3
              · exact z2 w (by omega)
            · rintro ⟨z1, z2⟩
              exact ⟨⟨z1, fun w hw => z2 w (by omega)⟩, z2 v (by omega)⟩
        refine br_f (nI_ge (b := 6) (by omega) (by decide)) ⟨v6, vp_in_nI (by omega) (by omega), ?_⟩
        rw [yv_6, c6, ebg, cv, hw v (by omega)]
        refine yv_jn (fz_okN (hok v)) ⟨vp_in_nI (by omega) (by omega), ?_⟩
        by_cases q : fz_j (p.1 (6 * t + v)) (nv v) = p.1 (6 * t + v)
        · exact br_t q (nx ch hch ⟨fun z => ⟨z, q⟩, fun z => z.1⟩)
        · exact br_f q (nx 1 (Or.inr rfl) ⟨fun w => absurd w (by decide), fun w => absurd w.2 q⟩)
  have hyo : ∀ y, y = upd yo t (vp_nar .boolean 1) → ∀ i, i < 16 → ((fz_sp t nv p).2 i = true → y i = 1) ∧ ((fz_sp t nv p).2 i = false → y i = 0) := by
    intro y ey i hi
    rw [yv_n1] at ey
    subst ey
    by_cases e : i = t
    · subst e
      rw [pk_us]
      refine ⟨fun _ => rfl, fun z => ?_⟩
      rw [fz_sp3.mpr (Or.inr rfl)] at z
      exact absurd z (by decide)
    · rw [pk_un e]
      refine ⟨fun z => (ag.2 i hi).1 ((fz_sp3.mp z).resolve_right e), fun z => (ag.2 i hi).2 ?_⟩
      cases q : p.2 i
      · rfl
      · rw [fz_sp3.mpr (Or.inl q)] at z
        exact absurd z (by decide)
  cases hpt : p.2 t
  · refine ⟨vt, br_t (by rw [ct]; exact (ag.2 t ht).2 hpt) ⟨vt, ?_⟩⟩
    intro y ey
    rw [ct] at ey
    refine ⟨7, L y (hyo y ey) 7 0 1 yg (by omega) (by omega) (Or.inr rfl) (fun w hw => absurd hw (Nat.not_lt_zero w)) (fun j hj _ => ag.1 j hj) ⟨fun w => absurd w (by decide), fun w => ?_⟩⟩
    rw [hpt] at w
    exact absurd w.1 (by decide)
  · refine ⟨vt, br_f (by rw [ct, (ag.2 t ht).1 hpt]; decide) ⟨vt, ?_⟩⟩
    intro y ey
    rw [ct] at ey
    refine ⟨7, L y (hyo y ey) 7 0 0 yg (by omega) (by omega) (Or.inl rfl) (fun w hw => absurd hw (Nat.not_lt_zero w)) (fun j hj _ => ag.1 j hj) ⟨fun _ => ⟨hpt, fun w hw => absurd hw (Nat.not_lt_zero w)⟩, fun _ => rfl⟩⟩
end
