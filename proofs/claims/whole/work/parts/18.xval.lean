theorem xv_6 (b v : Nat) : nI b * 6 + nI v = nI (6 * b + v) := by
  show nI b * nI 6 + nI v = _
  rw [pk_mul, nI_add, Nat.mul_comm]
theorem xv_60 (b : Nat) : nI b * 6 = nI (6 * b) := by
  show nI b * nI 6 = _
  rw [pk_mul, Nat.mul_comm]
theorem xv_o {o : Nat} (h2 : 2 ≤ o) (h6 : o ≤ 6) : o = 2 ∨ o = 3 ∨ o = 4 ∨ o = 5 ∨ o = 6 := by omega
theorem xv_wo {post : Int32 → Prop} {o : Nat} {x y : Int32} (h2 : 2 ≤ o) (h6 : o ≤ 6) (hp : post (fz_w (nI o) x y)) : wpX_workedOut post (nI o) x y := by
  unfold fz_w at hp
  rcases xv_o h2 h6 with e | e | e | e | e
  · subst e
    rw [if_pos (by decide)] at hp
    exact br_f (by decide) (br_f (by decide) (br_t (by decide) hp))
  · subst e
    rw [if_neg (by decide), if_pos (by decide)] at hp
    exact br_f (by decide) (br_f (by decide) (br_f (by decide) (br_t (by decide) hp)))
  · subst e
    rw [if_neg (by decide), if_neg (by decide), if_pos (by decide)] at hp
    exact br_f (by decide) (br_f (by decide) (br_f (by decide) (br_f (by decide) (br_t (by decide) hp))))
  · subst e
    rw [if_neg (by decide), if_neg (by decide), if_neg (by decide), if_pos (by decide)] at hp
    refine br_f (by decide) (br_f (by decide) (br_f (by decide) (br_f (by decide) (br_f (by decide) (br_t (by decide) (br_c (fun z => ?_) (fun z => ?_)))))))
    · rw [if_neg (Int32.not_lt.mpr z)] at hp
      exact hp
    · rw [if_pos (Int32.not_le.mp z)] at hp
      exact hp
  · subst e
    rw [if_neg (by decide), if_neg (by decide), if_neg (by decide), if_neg (by decide)] at hp
    refine br_f (by decide) (br_f (by decide) (br_f (by decide) (br_f (by decide) (br_f (by decide) (br_f (by decide) (br_t (by decide) (br_c (fun z => ?_) (fun z => ⟨z, ?_⟩))))))))
    · rw [if_pos z] at hp
      exact hp
    · rw [if_neg z] at hp
      exact hp
theorem xv_jn {post : Int64 → Prop} {x y : Int64} (hp : post (fz_j x y)) : wpX_join post x y := by
  unfold fz_j at hp
  by_cases h1 : x = fz_N
  · rw [if_pos (Or.inl h1)] at hp
    exact br_t h1 hp
  · by_cases h2 : x = y
    · rw [if_pos (Or.inr h2)] at hp
      exact br_f h1 (br_t h2 hp)
    · rw [if_neg (fun z => z.elim h1 h2)] at hp
      exact br_f h1 (br_f h2 hp)
/-- what the class holds of p -/
def xv_ag (p : (Nat → Int64) × (Nat → Bool)) (bg : Nat → Int64) (ob : Int32) : Prop := (∀ j, j < 96 → bg j = p.1 j) ∧ (∀ i, bt ob i = p.2 i)
section
variable {n k : Nat} {me ob ot oe it lr lb la : Int32} {sz kd ev th el op rs fi se dm fr lv va : Nat → Int32} {bg en : Nat → Int64}
theorem xv_vs {post : Int64 → Prop} {q b : Nat} {nw : Nat → Int64} (hq : q < 64) (hb : b < 16) (h : fe_i1 op rs fi se q) (hw : ∀ v, v < 6 → en (6 * b + v) = nw v) (hp : post (fz_v (op q) (fi q) (se q) nw)) : wpX_valueSetBy post ((nI n), (nI k), me, ob, ot, oe, it, lr, lb, la, sz, kd, ev, th, el, op, rs, fi, se, dm, fr, lv, bg, en, va) (nI q) (nI (6 * b)) := by
  obtain ⟨⟨o, ho, eo, ha, hc⟩, _⟩ := h
  have c : (nI q).toNatClampNeg = q := nI_clamp (by omega)
  have vi : vp_in (nI q) 64 := vp_in_nI hq (by omega)
  unfold fz_v at hp
  refine ⟨vi, ?_⟩
  intro y ey
  rw [c, eo] at ey
  subst ey
  rw [eo] at hp
  by_cases o7 : o = 7
  · subst o7
    rw [if_pos (by decide)] at hp
    exact br_t (by decide) hp
  have n7 : ¬ nI o = 7 := fun z => o7 ((nI_eq (b := 7) (by omega) (by decide)).mp z)
  rw [if_neg n7] at hp
  refine br_f n7 ?_
  by_cases o0 : o = 0
  · subst o0
    rw [if_pos (by decide)] at hp
    refine br_t (by decide) ⟨vi, ?_⟩
    rw [c]
    exact hp
  have n0 : ¬ nI o = 0 := fun z => o0 ((nI_eq (b := 0) (by omega) (by decide)).mp z)
  rw [if_neg n0] at hp
  obtain ⟨wa, hva, ea⟩ := ha (by omega) (by omega)
  have ia : nI (6 * b) + fi (nI q).toNatClampNeg = nI (6 * b + wa) := by rw [c, ea, nI_add]
  have ca : (nI (6 * b + wa)).toNatClampNeg = 6 * b + wa := nI_clamp (by omega)
  rw [ea, nI_clamp (by omega : wa < 2 ^ 31)] at hp
  refine br_f n0 ⟨vi, by rw [ia]; exact vp_in_nI (by omega) (by omega), ?_⟩
  intro x ex
  rw [ia, ca, hw wa hva] at ex
  subst ex
  by_cases o1 : o = 1
  · subst o1
    rw [if_pos (by decide)] at hp
    exact br_t (by decide) hp
  have n1 : ¬ nI o = 1 := fun z => o1 ((nI_eq (b := 1) (by omega) (by decide)).mp z)
  rw [if_neg n1] at hp
  obtain ⟨wb, hvb, eb⟩ := hc (by omega) (by omega)
  have ib : nI (6 * b) + se (nI q).toNatClampNeg = nI (6 * b + wb) := by rw [c, eb, nI_add]
  have cb : (nI (6 * b + wb)).toNatClampNeg = 6 * b + wb := nI_clamp (by omega)
  rw [eb, nI_clamp (by omega : wb < 2 ^ 31)] at hp
  refine br_f n1 ⟨vi, by rw [ib]; exact vp_in_nI (by omega) (by omega), ?_⟩
  intro y ey
  rw [ib, cb, hw wb hvb] at ey
  subst ey
  have w88 : (¬ (nI o = 4 ∧ (nw wa = 0 ∨ nw wb = 0))) → wX_valueSetBy_88 post (nI o) (nw wa) (nw wb) (nI n) (nI k) me ob ot oe it lr lb la sz kd ev th el op rs fi se dm fr lv bg en va := by
    intro nz
    rw [if_neg nz] at hp
    by_cases z1 : nw wa = fz_V
    · rw [if_pos (Or.inl z1)] at hp
      exact br_t z1 hp
    · by_cases z2 : nw wb = fz_V
      · rw [if_pos (Or.inr z2)] at hp
        exact br_f z1 (br_t z2 hp)
      · rw [if_neg (fun z => z.elim z1 z2)] at hp
        exact br_f z1 (br_f z2 (xv_wo (by omega) (by omega) hp))
  by_cases o4 : nI o = 4
  · refine br_t o4 ?_
    by_cases z1 : nw wa = 0
    · rw [if_pos ⟨o4, Or.inl z1⟩] at hp
      exact br_t z1 hp
    · refine br_f z1 ?_
      by_cases z2 : nw wb = 0
      · rw [if_pos ⟨o4, Or.inr z2⟩] at hp
        exact br_t z2 hp
      · exact br_f z2 (w88 (fun z => z.2.elim z1 z2))
  · exact br_f o4 (w88 (fun z => o4 z.1))
theorem xv_wt (hn : n ≤ 16) (is : fe_is n sz op rs fi se) {post : SX → Prop} {b : Nat} {B : Nat → Int64} (hb : b < n) (hB : ∀ v, v < 6 → bg (6 * b + v) = B (6 * b + v))
    (hp : ∀ en', (∀ v, v < 6 → en' (6 * b + v) = fz_en sz op rs fi se B b v) → (∀ j, (j < 6 * b ∨ 6 * b + 6 ≤ j) → en' j = en j) → post ((nI n), (nI k), me, ob, ot, oe, it, lr, lb, la, sz, kd, ev, th, el, op, rs, fi, se, dm, fr, lv, bg, en', va)) : wpX_workThrough post ((nI n), (nI k), me, ob, ot, oe, it, lr, lb, la, sz, kd, ev, th, el, op, rs, fi, se, dm, fr, lv, bg, en, va) (nI b) := by
  obtain ⟨s, hs, es, cs, hin⟩ := fe_ix is hb
  have c : (nI b).toNatClampNeg = b := nI_clamp (by omega)
  have vi : vp_in (nI b) 16 := vp_in_nI (by omega) (by omega)
  unfold fz_en at hp
  rw [cs] at hp
  have L2 : ∀ m i en', i ≤ s → s - i < m → (∀ v, v < 6 → en' (6 * b + v) = fz_th op rs fi se (4 * b) (fz_bg B b) i v) → (∀ j, (j < 6 * b ∨ 6 * b + 6 ≤ j) → en' j = en j) →
      wX_workThrough_37 post (nI b) (nI (6 * b)) (nI n) (nI k) me ob ot oe it lr lb la m (nI i) sz kd ev th el op rs fi se dm fr lv bg en' va := by
    intro m
    induction m with
    | zero => intro i en' _ h; omega
    | succ m ih =>
      intro i en' hi hm h1 h2
      by_cases e : i = s
      · subst e
        exact ⟨vi, br_t (by rw [c, es]; exact Int32.le_refl _) (hp en' h1 h2)⟩
      · have hin' := hin i (by omega)
        obtain ⟨hcl, v, hv, ev2⟩ := hin'
        clear hcl
        refine ⟨vi, br_f (by rw [c, es]; exact nI_ge (by omega) (by omega)) ?_⟩
        intro y ey
        rw [xs_ix] at ey
        subst ey
        have c4 : (nI (4 * b + i)).toNatClampNeg = 4 * b + i := nI_clamp (by omega)
        refine ⟨vp_in_nI (by omega) (by omega), xv_vs (by omega) (by omega) (hin i (by omega)) h1 ⟨?_, ?_⟩⟩
        · rw [c4, ev2, nI_add]
          exact vp_in_nI (by omega) (by omega)
        · intro y ey
          rw [c4, ev2, nI_add, nI_clamp (by omega)] at ey
          subst ey
          refine nm_r (nI_1 i) (ih (i + 1) _ (by omega) (by omega) (fun w hw => ?_) (fun j hj => ?_))
          · show vp_updL _ _ _ _ = vp_updL _ _ _ _
            rw [ev2, nI_clamp (by omega)]
            by_cases ew : w = v
            · rw [ew, pk_uLs, pk_uLs]
            · rw [pk_uLn (by omega), pk_uLn ew]
              exact h1 w hw
          · rw [pk_uLn (by omega)]
            exact h2 j hj
  have L1 : ∀ m v en', v ≤ 6 → 6 - v < m → (∀ w, w < v → en' (6 * b + w) = B (6 * b + w)) → (∀ j, (j < 6 * b ∨ 6 * b + 6 ≤ j) → en' j = en j) →
      wX_workThrough_7 post (nI b) (nI (6 * b)) (nI n) (nI k) me ob ot oe it lr lb la m (nI v) sz kd ev th el op rs fi se dm fr lv bg en' va := by
    intro m
    induction m with
    | zero => intro i en' _ h; omega
    | succ m ih =>
      intro v en' hv hm h1 h2
      by_cases e : v = 6
      · subst e
        refine br_t (by decide) ⟨s + 1, L2 (s + 1) 0 en' (by omega) (by omega) (fun w hw => ?_) h2⟩
        show en' (6 * b + w) = fz_bg B b w
        unfold fz_bg
        rw [if_pos hw]
        exact h1 w hw
      · have c6 : (nI (6 * b + v)).toNatClampNeg = 6 * b + v := nI_clamp (by omega)
        have v6 : vp_in (nI (6 * b) + nI v) 96 := by rw [nI_add]; exact vp_in_nI (by omega) (by omega)
        refine br_f (nI_ge (b := 6) (by omega) (by decide)) ⟨v6, v6, ?_⟩
        intro y ey
        rw [nI_add, c6] at ey
        subst ey
        refine nm_r (nI_1 v) (ih (v + 1) _ (by omega) (by omega) (fun w hw => ?_) (fun j hj => ?_))
        · by_cases ew : w = v
          · rw [ew, pk_uLs]
            exact hB v (by omega)
          · rw [pk_uLn (by omega)]
            exact h1 w (by omega)
        · rw [pk_uLn (by omega)]
          exact h2 j hj
  intro y ey
  rw [xv_60] at ey
  subst ey
  exact ⟨7, L1 7 0 en (by omega) (by omega) (fun w hw => absurd hw (Nat.not_lt_zero w)) (fun j _ => rfl)⟩
theorem xv_sto {post : Int32 → SX → Prop} {b t : Nat} {p : (Nat → Int64) × (Nat → Bool)} {nw : Nat → Int64} (hb : b < 16) (ht : t < 16) (ag : xv_ag p bg ob) (hw : ∀ v, v < 6 → en (6 * b + v) = nw v) (hok : ∀ v, fz_ok (nw v))
    (hp : ∀ r bg' ob', (r = 0 ∨ r = 1) → xv_ag (fz_sp t nw p) bg' ob' → (r = 0 → fz_sp t nw p = p) → (r = 1 → fz_mu p < fz_mu (fz_sp t nw p)) → post r ((nI n), (nI k), me, ob', ot, oe, it, lr, lb, la, sz, kd, ev, th, el, op, rs, fi, se, dm, fr, lv, bg', en, va)) : wpX_spreadTo post ((nI n), (nI k), me, ob, ot, oe, it, lr, lb, la, sz, kd, ev, th, el, op, rs, fi, se, dm, fr, lv, bg, en, va) (nI b) (nI t) := by
  have hmu := fz_sp_mu (p := p) ht hok
  have L : ∀ ob', (∀ i, bt ob' i = (fz_sp t nw p).2 i) → ∀ m v ch bg', v ≤ 6 → 6 - v < m → (ch = 0 ∨ ch = 1) → (∀ w, w < v → bg' (6 * t + w) = fz_j (p.1 (6 * t + w)) (nw w)) → (∀ j, j < 96 → (j < 6 * t ∨ 6 * t + v ≤ j) → bg' j = p.1 j) →
      (ch = 0 ↔ (p.2 t = true ∧ ∀ w, w < v → fz_j (p.1 (6 * t + w)) (nw w) = p.1 (6 * t + w))) → wX_spreadTo_32 post (nI b) (nI t) (nI n) (nI k) me ob' ot oe it lr lb la m ch (nI v) sz kd ev th el op rs fi se dm fr lv bg' en va := by
    intro ob' hob m
    induction m with
    | zero => intro v ch bg' _ h; omega
    | succ m ih =>
      intro v ch bg' hv hm hch h1 h2 h3
      by_cases e : v = 6
      · subst e
        refine br_t (by decide) ⟨by rcases hch with z | z <;> rw [z] <;> rfl, hp ch bg' ob' hch ⟨fun j hj => ?_, hob⟩ (fun z => ?_) (fun z => hmu.2 ?_)⟩
        · unfold fz_sp
          dsimp only
          by_cases q : 6 * t ≤ j ∧ j < 6 * t + 6
          · rw [if_pos q]
            have := h1 (j - 6 * t) (by omega)
            have e2 : 6 * t + (j - 6 * t) = j := by omega
            rw [e2] at this
            exact this
          · rw [if_neg q]
            exact h2 j hj (by omega)
        · have z2 := h3.mp z
          exact fz_sp_eq z2.1 z2.2
        · apply Classical.byContradiction
          intro w
          have : ch = 0 := by
            refine h3.mpr ⟨?_, fun v hv => ?_⟩
            · cases hpt : p.2 t
              · exact absurd (Or.inl hpt) w
              · rfl
            · apply Classical.byContradiction
              intro w2
              exact w (Or.inr ⟨v, hv, w2⟩)
          rw [this] at z
          exact absurd z (by decide)
      · have c6 : (nI (6 * t + v)).toNatClampNeg = 6 * t + v := nI_clamp (by omega)
        have cb : (nI (6 * b + v)).toNatClampNeg = 6 * b + v := nI_clamp (by omega)
        have v6 : vp_in (nI (6 * t + v)) 96 := vp_in_nI (by omega) (by omega)
        have ebg : bg' (6 * t + v) = p.1 (6 * t + v) := h2 _ (by omega) (by omega)
        have nx : ∀ ch' : Int32, (ch' = 0 ∨ ch' = 1) → (ch' = 0 ↔ (ch = 0 ∧ fz_j (p.1 (6 * t + v)) (nw v) = p.1 (6 * t + v))) →
            wX_spreadTo_94 post (wX_spreadTo_32 post (nI b) (nI t) (nI n) (nI k) me ob' ot oe it lr lb la m) (nI b) (nI t) (nI v) (nI (6 * t + v)) (fz_j (p.1 (6 * t + v)) (nw v)) ch' (nI n) (nI k) me ob' ot oe it lr lb la sz kd ev th el op rs fi se dm fr lv bg' en va := by
          intro ch' h4 h5
          refine ⟨v6, ?_⟩
          intro y ey
          rw [c6] at ey
          subst ey
          refine nm_r (nI_1 v) (ih (v + 1) ch' _ (by omega) (by omega) h4 (fun w hw => ?_) (fun j hj hj2 => ?_) ?_)
          · by_cases ew : w = v
            · rw [ew, pk_uLs]
            · rw [pk_uLn (by omega)]
              exact h1 w (by omega)
          · rw [pk_uLn (by omega)]
            exact h2 j hj (by omega)
          · rw [h5, h3]
            constructor
            · rintro ⟨⟨z1, z2⟩, z3⟩
              refine ⟨z1, fun w hw => ?_⟩
              by_cases ew : w = v
              · rw [ew]; exact z3
              · exact z2 w (by omega)
            · rintro ⟨z1, z2⟩
              exact ⟨⟨z1, fun w hw => z2 w (by omega)⟩, z2 v (by omega)⟩
        refine br_f (nI_ge (b := 6) (by omega) (by decide)) ?_
        intro y ey
        rw [xv_6] at ey
        subst ey
        refine ⟨v6, by rw [xv_6]; exact vp_in_nI (by omega) (by omega), ?_⟩
        rw [c6, ebg, xv_6, cb, hw v (by omega)]
        refine xv_jn ?_
        by_cases z : ch = 0
        · refine br_t z ⟨v6, ?_⟩
          by_cases q : fz_j (p.1 (6 * t + v)) (nw v) = p.1 (6 * t + v)
          · exact br_t q (nx 0 (Or.inl rfl) ⟨fun _ => ⟨z, q⟩, fun _ => rfl⟩)
          · exact br_f q (nx 1 (Or.inr rfl) ⟨fun w => absurd w (by decide), fun w => absurd w.2 q⟩)
        · exact br_f z (nx 1 (Or.inr rfl) ⟨fun w => absurd w (by decide), fun w => absurd w.1 z⟩)
  have hob : ∀ y, y = ob ||| ((1 : Int32) <<< (nI t &&& 31)) → ∀ i, bt y i = (fz_sp t nw p).2 i := by
    intro y ey i
    apply Bool.eq_iff_iff.mpr
    rw [ey, sl_or, sl_sg (by omega), ag.2 i, fz_sp3]
  unfold wpX_spreadTo
  refine xs_has (by omega) (fun z => br_t rfl ?_) (fun z => br_f (by decide) ?_)
  · intro y ey
    refine ⟨7, L y (hob y ey) 7 0 1 bg (by omega) (by omega) (Or.inr rfl) (fun w hw => absurd hw (Nat.not_lt_zero w)) (fun j hj _ => ag.1 j hj) ⟨fun w => absurd w (by decide), fun w => ?_⟩⟩
    rw [← ag.2 t] at w
    exact absurd w.1 z
  · intro y ey
    refine ⟨7, L y (hob y ey) 7 0 0 bg (by omega) (by omega) (Or.inl rfl) (fun w hw => absurd hw (Nat.not_lt_zero w)) (fun j hj _ => ag.1 j hj) ⟨fun _ => ⟨?_, fun w hw => absurd hw (Nat.not_lt_zero w)⟩, fun _ => rfl⟩⟩
    rw [← ag.2 t]
    exact z
end
