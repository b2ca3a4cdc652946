/-- a call of 'add' that isn't BAD -/
def fi_ga (n : Nat) (v1 v2 v3 v4 v5 : Int32) (b : Nat) : Prop :=
  b < n ∧ v1 = nI b ∧ (∃ o, o < 8 ∧ v2 = nI o ∧ (1 ≤ o → o ≤ 6 → ∃ a, a < 6 ∧ v4 = nI a) ∧ (2 ≤ o → o ≤ 6 → ∃ c, c < 6 ∧ v5 = nI c)) ∧ ∃ d, d < 6 ∧ v3 = nI d
/-- a call of 'exit' that isn't refused -/
def fi_gx (n : Nat) (v1 v2 v3 v4 v5 : Int32) (b : Nat) : Prop :=
  b < n ∧ v1 = nI b ∧ (v2 = 0 ∨ v2 = 1 ∨ v2 = 2) ∧ (¬ v2 = 1 → ∃ v, v < 6 ∧ v3 = nI v) ∧ (¬ v2 = 0 → ∃ t, 1 ≤ t ∧ t < n ∧ v4 = nI t) ∧ (v2 = 2 → ∃ t, 1 ≤ t ∧ t < n ∧ v5 = nI t)
section
variable {n k : Nat} {me ob ot oe it lr lb la : Int32} {sz kd ev th el op rs fi se dm fr lv va : Nat → Int32} {bg en : Nat → Int64}
theorem xs_se {post : SX → Prop} {b : Nat} {kk v t e w1 w2 w3 : Int32} (hb : b < 16) (h1 : kk = 1 → w1 = 0) (h1' : ¬ kk = 1 → w1 = v) (h2 : kk = 0 → w2 = 0) (h2' : ¬ kk = 0 → w2 = t) (h3 : kk = 2 → w3 = e) (h3' : ¬ kk = 2 → w3 = 0)
    (hp : post ((nI n), (nI k), me, ob, ot, oe, it, lr, lb, la, sz, (upd kd b kk), (upd ev b w1), (upd th b w2), (upd el b w3), op, rs, fi, se, dm, fr, lv, bg, en, va)) : wpX_setExit post ((nI n), (nI k), me, ob, ot, oe, it, lr, lb, la, sz, kd, ev, th, el, op, rs, fi, se, dm, fr, lv, bg, en, va) (nI b) kk v t e := by
  have c : (nI b).toNatClampNeg = b := nI_clamp (by omega)
  have vi : vp_in (nI b) 16 := vp_in_nI (by omega) (by omega)
  have y38 : ∀ (kd ev : Nat → Int32), post ((nI n), (nI k), me, ob, ot, oe, it, lr, lb, la, sz, kd, ev, (upd th b w2), (upd el b w3), op, rs, fi, se, dm, fr, lv, bg, en, va) → wX_setExit_38 post (nI b) kk e w2 (nI b) (nI n) (nI k) me ob ot oe it lr lb la sz kd ev th el op rs fi se dm fr lv bg en va := by
    intro kd ev hp
    refine ⟨vi, ?_⟩
    intro y ey
    rw [c] at ey
    subst ey
    by_cases k2 : kk = 2
    · refine br_t k2 ⟨vi, ?_⟩
      intro y ey
      rw [c, ← h3 k2] at ey
      subst ey
      exact hp
    · refine br_f k2 ⟨vi, ?_⟩
      intro y ey
      rw [c, ← h3' k2] at ey
      subst ey
      exact hp
  have y22 : ∀ (kd : Nat → Int32), post ((nI n), (nI k), me, ob, ot, oe, it, lr, lb, la, sz, kd, (upd ev b w1), (upd th b w2), (upd el b w3), op, rs, fi, se, dm, fr, lv, bg, en, va) → wX_setExit_22 post (nI b) kk t e w1 (nI b) (nI n) (nI k) me ob ot oe it lr lb la sz kd ev th el op rs fi se dm fr lv bg en va := by
    intro kd hp
    refine ⟨vi, ?_⟩
    intro y ey
    rw [c] at ey
    subst ey
    by_cases k0 : kk = 0
    · refine br_t k0 ?_
      have := y38 kd _ hp
      rw [h2 k0] at this
      exact this
    · refine br_f k0 ?_
      have := y38 kd _ hp
      rw [h2' k0] at this
      exact this
  refine ⟨vi, ?_⟩
  intro y ey
  rw [c] at ey
  subst ey
  by_cases k1 : kk = 1
  · refine br_t k1 ?_
    have := y22 _ hp
    rw [h1 k1] at this
    exact this
  · refine br_f k1 ?_
    have := y22 _ hp
    rw [h1' k1] at this
    exact this
theorem xs_a61 {post : Int32 → SX → Prop} {b s : Nat} {v2 v3 v4 v5 : Int32} (hb : b < 16) (es : sz b = nI s) (hs : s ≤ 4) (h4 : s = 4 → post (-2) ((nI n), (nI k), me, ob, ot, oe, it, lr, lb, la, sz, kd, ev, th, el, op, rs, fi, se, dm, fr, lv, bg, en, va))
    (hlt : s < 4 → post (nI (s + 1)) ((nI n), (nI k), me, ob, ot, oe, it, lr, lb, la, (upd sz b (nI (s + 1))), kd, ev, th, el, (upd op (4 * b + s) v2), (upd rs (4 * b + s) v3), (upd fi (4 * b + s) v4), (upd se (4 * b + s) v5), dm, fr, lv, bg, en, va)) : wX_add_61 post (nI b) v2 v3 v4 v5 (nI n) (nI k) me ob ot oe it lr lb la sz kd ev th el op rs fi se dm fr lv bg en va := by
  have c : (nI b).toNatClampNeg = b := nI_clamp (by omega)
  have vi : vp_in (nI b) 16 := vp_in_nI (by omega) (by omega)
  by_cases e : s = 4
  · refine ⟨vi, br_f ?_ (h4 e)⟩
    rw [c, es, e]
    decide
  · have h := hlt (by omega)
    refine ⟨vi, br_t (by rw [c, es]; exact nI_lt (b := 4) (by omega) (by decide)) ⟨vi, ?_⟩⟩
    intro y ey
    rw [c, es, xs_ix] at ey
    subst ey
    have c4 : (nI (4 * b + s)).toNatClampNeg = 4 * b + s := nI_clamp (by omega)
    have v4 : vp_in (nI (4 * b + s)) 64 := vp_in_nI (by omega) (by omega)
    refine ⟨v4, ?_⟩
    intro y ey
    rw [c4] at ey
    subst ey
    refine ⟨v4, ?_⟩
    intro y ey
    rw [c4] at ey
    subst ey
    refine ⟨v4, ?_⟩
    intro y ey
    rw [c4] at ey
    subst ey
    refine ⟨v4, ?_⟩
    intro y ey
    rw [c4] at ey
    subst ey
    refine ⟨vi, vi, ?_⟩
    intro y ey
    rw [c, es, nI_1] at ey
    subst ey
    refine ⟨vi, ?_⟩
    rw [c, pk_us]
    exact h
theorem xs_add (hn : n ≤ 16) (is : fe_is n sz op rs fi se) {post : Int32 → SX → Prop} {v1 v2 v3 v4 v5 : Int32} (hbad : ¬ (∃ b, fi_ga n v1 v2 v3 v4 v5 b) → post (-1) ((nI n), (nI k), me, ob, ot, oe, it, lr, lb, la, sz, kd, ev, th, el, op, rs, fi, se, dm, fr, lv, bg, en, va))
    (hgood : ∀ b s, fi_ga n v1 v2 v3 v4 v5 b → sz b = nI s → s ≤ 4 → (s = 4 → post (-2) ((nI n), (nI k), me, ob, ot, oe, it, lr, lb, la, sz, kd, ev, th, el, op, rs, fi, se, dm, fr, lv, bg, en, va)) ∧
      (s < 4 → post (nI (s + 1)) ((nI n), (nI k), me, ob, ot, oe, it, lr, lb, la, (upd sz b (nI (s + 1))), kd, ev, th, el, (upd op (4 * b + s) v2), (upd rs (4 * b + s) v3), (upd fi (4 * b + s) v4), (upd se (4 * b + s) v5), dm, fr, lv, bg, en, va))) : wpX_add post ((nI n), (nI k), me, ob, ot, oe, it, lr, lb, la, sz, kd, ev, th, el, op, rs, fi, se, dm, fr, lv, bg, en, va) v1 v2 v3 v4 v5 := by
  unfold wpX_add
  refine xs_isB hn (fun z => br_t rfl (hbad (fun ⟨b, hb, eb, _⟩ => z b hb eb))) (fun b hb eb => br_f (by decide) ?_)
  rcases pk_ix v2 (n := 8) (by decide) with h | h | ⟨o, ho, eo⟩
  · refine br_t h (hbad (fun ⟨b, hb, eb, ⟨o, ho, eo, _⟩, _⟩ => ?_))
    rw [eo] at h
    exact nI_pos (by omega) h
  · refine br_f (fun z => nI_pos (n := 8) (by decide) (Int32.lt_of_le_of_lt h z)) (br_t (Int32.lt_of_lt_of_le (by decide) h) (hbad (fun ⟨b, hb, eb, ⟨o, ho, eo, _⟩, _⟩ => ?_)))
    rw [eo] at h
    exact nI_ge ho (by decide) h
  · subst eo
    have uo : ∀ {o' : Nat}, o' < 8 → nI o = nI o' → o' = o := fun ho' e => ((nI_eq (by omega) (by omega)).mp e).symm
    refine br_f (nI_pos (by omega)) (br_f (nI_nlt (a := 7) (by omega) (by decide)) (xs_isV (fun z => br_t rfl (hbad (fun ⟨_, _, _, _, d, hd, ed⟩ => z d hd ed))) (fun d hd ed => br_f (by decide) ?_)))
    have y61 : (1 ≤ o → o ≤ 6 → ∃ a, a < 6 ∧ v4 = nI a) → (2 ≤ o → o ≤ 6 → ∃ c, c < 6 ∧ v5 = nI c) → wX_add_61 post v1 (nI o) v3 v4 v5 (nI n) (nI k) me ob ot oe it lr lb la sz kd ev th el op rs fi se dm fr lv bg en va := by
      intro h1 h2
      obtain ⟨s, hs, es, _⟩ := is b hb
      have g := hgood b s ⟨hb, eb, ⟨o, ho, rfl, h1, h2⟩, d, hd, ed⟩ es hs
      subst eb
      exact xs_a61 (by clear h1 h2 g; omega) es hs g.1 g.2
    have y44 : (1 ≤ o → o ≤ 6 → ∃ a, a < 6 ∧ v4 = nI a) → wX_add_44 post v1 (nI o) v3 v4 v5 (nI n) (nI k) me ob ot oe it lr lb la sz kd ev th el op rs fi se dm fr lv bg en va := by
      intro h1
      unfold wX_add_44
      refine xs_u2 ho rfl (fun z => br_t rfl (y61 h1 (fun w1 w2 => absurd ⟨w1, w2⟩ z))) (fun z => br_f (by decide) (xs_isV (fun w => br_t rfl (hbad (fun ⟨_, _, _, ⟨o', ho', eo', _, h2⟩, _⟩ => ?_))) (fun a ha ea => br_f (by decide) (y61 h1 (fun _ _ => ⟨a, ha, ea⟩)))))
      rw [uo ho' eo'] at h2
      obtain ⟨c, hc, ec⟩ := h2 z.1 z.2
      exact w c hc ec
    refine xs_uf ho rfl (fun z => br_t rfl (y44 (fun w1 w2 => absurd ⟨w1, w2⟩ z))) (fun z => br_f (by decide) (xs_isV (fun w => br_t rfl (hbad (fun ⟨_, _, _, ⟨o', ho', eo', h1, _⟩, _⟩ => ?_))) (fun a ha ea => br_f (by decide) (y44 (fun _ _ => ⟨a, ha, ea⟩)))))
    rw [uo ho' eo'] at h1
    obtain ⟨c, hc, ec⟩ := h1 z.1 z.2
    exact w c hc ec
theorem xs_isT (hn : n ≤ 16) {post : Int32 → Prop} {b : Int32} (h0 : (∀ j, 1 ≤ j → j < n → ¬ b = nI j) → post 0) (h1 : ∀ j, 1 ≤ j → j < n → b = nI j → post 1) : wpX_isTarget post ((nI n), (nI k), me, ob, ot, oe, it, lr, lb, la, sz, kd, ev, th, el, op, rs, fi, se, dm, fr, lv, bg, en, va) b := by
  rcases pk_ix b (n := n) (by omega) with h | h | ⟨j, hj, e⟩
  · refine br_t (Int32.le_of_lt h) (h0 (fun j hj hj2 e => ?_))
    rw [e] at h
    exact nI_pos (by omega) h
  · by_cases z : b ≤ 0
    · refine br_t z (h0 (fun j hj hj2 e => ?_))
      rw [e] at z
      exact nI_nle (by omega) (by omega) z
    · refine br_f z (br_t h (h0 (fun j hj hj2 e => ?_)))
      rw [e] at h
      exact nI_ge hj2 (by omega) h
  · subst e
    by_cases z : j = 0
    · refine br_t (by rw [z]; decide) (h0 (fun i hi hi2 e => ?_))
      have := (nI_eq (by omega) (by omega)).mp e
      omega
    · exact br_f (nI_nle (by omega) (by omega)) (br_f (nI_ge hj (by omega)) (h1 j (by omega) hj rfl))
theorem xs_ext (hn : n ≤ 16) {post : Int32 → SX → Prop} {v1 v2 v3 v4 v5 : Int32} (hbad : ¬ (∃ b, fi_gx n v1 v2 v3 v4 v5 b) → post 0 ((nI n), (nI k), me, ob, ot, oe, it, lr, lb, la, sz, kd, ev, th, el, op, rs, fi, se, dm, fr, lv, bg, en, va))
    (hgood : ∀ b w1 w2 w3, fi_gx n v1 v2 v3 v4 v5 b → (¬ v2 = 1 → w1 = v3) → (¬ v2 = 0 → w2 = v4) → (v2 = 2 → w3 = v5) →
      post 1 ((nI n), (nI k), me, ob, ot, oe, it, lr, lb, la, sz, (upd kd b v2), (upd ev b w1), (upd th b w2), (upd el b w3), op, rs, fi, se, dm, fr, lv, bg, en, va)) : wpX_exit post ((nI n), (nI k), me, ob, ot, oe, it, lr, lb, la, sz, kd, ev, th, el, op, rs, fi, se, dm, fr, lv, bg, en, va) v1 v2 v3 v4 v5 := by
  unfold wpX_exit
  refine xs_isB hn (fun z => br_t rfl (hbad (fun ⟨b, hb, eb, _⟩ => z b hb eb))) (fun b hb eb => br_f (by decide) ?_)
  have nk : ∀ {v : Int32}, (v = 0 ∨ v = 1 ∨ v = 2) → ¬ v < 0 ∧ v ≤ 2 := fun h => by
    rcases h with e | e | e <;> rw [e] <;> decide
  by_cases l0 : v2 < 0
  · exact br_t l0 (hbad (fun ⟨_, _, _, h, _⟩ => (nk h).1 l0))
  refine br_f l0 ?_
  by_cases l2 : v2 ≤ 2
  · refine br_t l2 ?_
    obtain ⟨o, ho, eo⟩ := nI_of2 (n := 2) (by decide) l0 l2
    have hk : v2 = 0 ∨ v2 = 1 ∨ v2 = 2 := by
      have : o = 0 ∨ o = 1 ∨ o = 2 := by omega
      rcases this with e | e | e
      · exact Or.inl (by rw [eo, e]; rfl)
      · exact Or.inr (Or.inl (by rw [eo, e]; rfl))
      · exact Or.inr (Or.inr (by rw [eo, e]; rfl))
    have y64 : fi_gx n v1 v2 v3 v4 v5 b → wX_exit_64 post v1 v2 v3 v4 v5 (nI n) (nI k) me ob ot oe it lr lb la sz kd ev th el op rs fi se dm fr lv bg en va := by
      intro g
      unfold wX_exit_64
      subst eb
      have q := hgood b (if v2 = 1 then 0 else v3) (if v2 = 0 then 0 else v4) (if v2 = 2 then v5 else 0) g (fun z => if_neg z) (fun z => if_neg z) (fun z => if_pos z)
      exact xs_se (by omega) (fun z => if_pos z) (fun z => if_neg z) (fun z => if_pos z) (fun z => if_neg z) (fun z => if_pos z) (fun z => if_neg z) q
    have y48 : (¬ v2 = 1 → ∃ v, v < 6 ∧ v3 = nI v) → (¬ v2 = 0 → ∃ t, 1 ≤ t ∧ t < n ∧ v4 = nI t) → wX_exit_48 post v1 v2 v3 v4 v5 (nI n) (nI k) me ob ot oe it lr lb la sz kd ev th el op rs fi se dm fr lv bg en va := by
      intro h1 h2
      by_cases e2 : v2 = 2
      · refine br_t e2 (xs_isT hn (fun z => br_t rfl (hbad (fun ⟨_, _, _, _, _, _, h⟩ => ?_))) (fun t ht ht2 et => br_f (by decide) (y64 ⟨hb, eb, hk, h1, h2, fun _ => ⟨t, ht, ht2, et⟩⟩)))
        obtain ⟨t, ht, ht2, et⟩ := h e2
        exact z t ht ht2 et
      · exact br_f e2 (y64 ⟨hb, eb, hk, h1, h2, fun z => absurd z e2⟩)
    have y33 : (¬ v2 = 1 → ∃ v, v < 6 ∧ v3 = nI v) → wX_exit_33 post v1 v2 v3 v4 v5 (nI n) (nI k) me ob ot oe it lr lb la sz kd ev th el op rs fi se dm fr lv bg en va := by
      intro h1
      by_cases e0 : v2 = 0
      · exact br_t e0 (y48 h1 (fun z => absurd e0 z))
      · refine br_f e0 (xs_isT hn (fun z => br_t rfl (hbad (fun ⟨_, _, _, _, _, h, _⟩ => ?_))) (fun t ht ht2 et => br_f (by decide) (y48 h1 (fun _ => ⟨t, ht, ht2, et⟩))))
        obtain ⟨t, ht, ht2, et⟩ := h e0
        exact z t ht ht2 et
    by_cases e1 : v2 = 1
    · exact br_t e1 (y33 (fun z => absurd e1 z))
    · refine br_f e1 (xs_isV (fun z => br_t rfl (hbad (fun ⟨_, _, _, _, h, _⟩ => ?_))) (fun v hv ev2 => br_f (by decide) (y33 (fun _ => ⟨v, hv, ev2⟩))))
      obtain ⟨v, hv, ev2⟩ := h e1
      exact z v hv ev2
  · exact br_f l2 (hbad (fun ⟨_, _, _, h, _⟩ => l2 (nk h).2))
end
section
variable {n k : Nat} {ym yr yb yl : Int32} {sz kd ev th el op rs fi se us f1 f2 yv nd ru eg yo yw : Nat → Int32} {yg nw : Nat → Int64}
theorem ys_a72 {post : Int32 → SY → Prop} {b s : Nat} {v2 v3 v4 v5 : Int32} (hb : b < 16) (es : sz b = nI s) (hs : s ≤ 4) (h4 : s = 4 → post (-2) ((nI n), (nI k), ym, yr, yb, yl, sz, op, rs, fi, se, kd, us, f1, f2, yv, nd, ru, eg, yg, nw, yo, yw))
    (hlt : s < 4 → post (nI (s + 1)) ((nI n), (nI k), ym, yr, yb, yl, (upd sz b (nI (s + 1))), (upd op (4 * b + s) v2), (upd rs (4 * b + s) v3), (upd fi (4 * b + s) v4), (upd se (4 * b + s) v5), kd, us, f1, f2, yv, nd, ru, eg, yg, nw, yo, yw)) : wY_add_72 post (nI b) v2 v3 v4 v5 (nI n) (nI k) ym yr yb yl sz op rs fi se kd us f1 f2 yv nd ru eg yg nw yo yw := by
  have c : (nI b).toNatClampNeg = b := nI_clamp (by omega)
  have vi : vp_in (nI b) 16 := vp_in_nI (by omega) (by omega)
  by_cases e : s = 4
  · refine ⟨vi, br_t ?_ (h4 e)⟩
    rw [c, es, e]
    rfl
  · have h := hlt (by omega)
    refine ⟨vi, br_f (fun z => e ?_) ⟨vi, vi, ?_⟩⟩
    · rw [c, es] at z
      exact (nI_eq (b := 4) (by omega) (by decide)).mp z
    intro y ey
    rw [c, es, nI_1] at ey
    subst ey
    intro y ey
    rw [c, es, ys_4, nI_add] at ey
    subst ey
    have c4 : (nI (4 * b + s)).toNatClampNeg = 4 * b + s := nI_clamp (by omega)
    have v4 : vp_in (nI (4 * b + s)) 64 := vp_in_nI (by omega) (by omega)
    refine ⟨v4, ?_⟩
    intro y ey
    rw [c4] at ey
    subst ey
    refine ⟨v4, ?_⟩
    intro y ey
    rw [c4] at ey
    subst ey
    refine ⟨v4, ?_⟩
    intro y ey
    rw [c4] at ey
    subst ey
    refine ⟨v4, ?_⟩
    intro y ey
    rw [c4] at ey
    subst ey
    refine ⟨vi, ?_⟩
    rw [c, pk_us]
    exact h
theorem ys_add (hn : n ≤ 16) (is : fe_is n sz op rs fi se) {post : Int32 → SY → Prop} {v1 v2 v3 v4 v5 : Int32} (hbad : ¬ (∃ b, fi_ga n v1 v2 v3 v4 v5 b) → post (-1) ((nI n), (nI k), ym, yr, yb, yl, sz, op, rs, fi, se, kd, us, f1, f2, yv, nd, ru, eg, yg, nw, yo, yw))
    (hgood : ∀ b s, fi_ga n v1 v2 v3 v4 v5 b → sz b = nI s → s ≤ 4 → (s = 4 → post (-2) ((nI n), (nI k), ym, yr, yb, yl, sz, op, rs, fi, se, kd, us, f1, f2, yv, nd, ru, eg, yg, nw, yo, yw)) ∧
      (s < 4 → post (nI (s + 1)) ((nI n), (nI k), ym, yr, yb, yl, (upd sz b (nI (s + 1))), (upd op (4 * b + s) v2), (upd rs (4 * b + s) v3), (upd fi (4 * b + s) v4), (upd se (4 * b + s) v5), kd, us, f1, f2, yv, nd, ru, eg, yg, nw, yo, yw))) : wpY_add post ((nI n), (nI k), ym, yr, yb, yl, sz, op, rs, fi, se, kd, us, f1, f2, yv, nd, ru, eg, yg, nw, yo, yw) v1 v2 v3 v4 v5 := by
  unfold wpY_add
  refine ys_out n (by omega) (fun z => br_f (by decide) (hbad (fun ⟨b, hb, eb, _⟩ => z b hb eb))) (fun b hb eb => br_t rfl ?_)
  refine ys_out 8 (by decide) (fun z => br_f (by decide) (hbad (fun ⟨_, _, _, ⟨o, ho, eo, _⟩, _⟩ => z o ho eo))) (fun o ho eo => br_t rfl ?_)
  refine ys_out 6 (by decide) (fun z => br_f (by decide) (hbad (fun ⟨_, _, _, _, d, hd, ed⟩ => z d hd ed))) (fun d hd ed => br_t rfl ?_)
  subst eo
  have uo : ∀ {o' : Nat}, o' < 8 → nI o = nI o' → o' = o := fun ho' e => ((nI_eq (by omega) (by omega)).mp e).symm
  have y72 : (1 ≤ o → o ≤ 6 → ∃ a, a < 6 ∧ v4 = nI a) → (2 ≤ o → o ≤ 6 → ∃ c, c < 6 ∧ v5 = nI c) → wY_add_72 post v1 (nI o) v3 v4 v5 (nI n) (nI k) ym yr yb yl sz op rs fi se kd us f1 f2 yv nd ru eg yg nw yo yw := by
    intro h1 h2
    obtain ⟨s, hs, es, _⟩ := is b hb
    have g := hgood b s ⟨hb, eb, ⟨o, ho, rfl, h1, h2⟩, d, hd, ed⟩ es hs
    subst eb
    exact ys_a72 (by clear h1 h2 g; omega) es hs g.1 g.2
  have y49 : (1 ≤ o → o ≤ 6 → ∃ a, a < 6 ∧ v4 = nI a) → wY_add_49 post v1 (nI o) v3 v4 v5 (nI n) (nI k) ym yr yb yl sz op rs fi se kd us f1 f2 yv nd ru eg yg nw yo yw := by
    intro h1
    by_cases o1 : o ≤ 1
    · exact br_t (nI_le (b := 1) o1 (by decide)) (y72 h1 (fun w1 w2 => by omega))
    · refine br_f (nI_ge (a := 1) (by omega) (by omega)) ?_
      by_cases o7 : 7 ≤ o
      · exact br_t (nI_le (a := 7) o7 (by omega)) (y72 h1 (fun w1 w2 => by omega))
      · refine br_f (nI_ge (b := 7) (by omega) (by decide)) (ys_out 6 (by decide) (fun w => br_f (by decide) (hbad (fun ⟨_, _, _, ⟨o', ho', eo', _, h2⟩, _⟩ => ?_))) (fun a ha ea => br_t rfl (y72 h1 (fun _ _ => ⟨a, ha, ea⟩))))
        rw [uo ho' eo'] at h2
        obtain ⟨c, hc, ec⟩ := h2 (by omega) (by omega)
        exact w c hc ec
  by_cases o0 : o ≤ 0
  · exact br_t (nI_le (b := 0) o0 (by decide)) (y49 (fun w1 w2 => by omega))
  · refine br_f (nI_ge (a := 0) (by omega) (by omega)) ?_
    by_cases o7 : 7 ≤ o
    · exact br_t (nI_le (a := 7) o7 (by omega)) (y49 (fun w1 w2 => by omega))
    · refine br_f (nI_ge (b := 7) (by omega) (by decide)) (ys_out 6 (by decide) (fun w => br_f (by decide) (hbad (fun ⟨_, _, _, ⟨o', ho', eo', h1, _⟩, _⟩ => ?_))) (fun a ha ea => br_t rfl (y49 (fun _ _ => ⟨a, ha, ea⟩))))
      rw [uo ho' eo'] at h1
      obtain ⟨c, hc, ec⟩ := h1 (by omega) (by omega)
      exact w c hc ec
theorem ys_ext (hn : n ≤ 16) {post : Int32 → SY → Prop} {v1 v2 v3 v4 v5 : Int32} (hbad : ¬ (∃ b, fi_gx n v1 v2 v3 v4 v5 b) → post 0 ((nI n), (nI k), ym, yr, yb, yl, sz, op, rs, fi, se, kd, us, f1, f2, yv, nd, ru, eg, yg, nw, yo, yw))
    (hgood : ∀ b u1, fi_gx n v1 v2 v3 v4 v5 b → (¬ v2 = 1 → u1 = v3) → (v2 = 1 → u1 = -1) → post 1 ((nI n), (nI k), ym, yr, yb, yl, sz, op, rs, fi, se, (upd kd b v2), (upd us b u1), (upd f1 b v4), (upd f2 b v5), yv, nd, ru, eg, yg, nw, yo, yw)) : wpY_exit post ((nI n), (nI k), ym, yr, yb, yl, sz, op, rs, fi, se, kd, us, f1, f2, yv, nd, ru, eg, yg, nw, yo, yw) v1 v2 v3 v4 v5 := by
  unfold wpY_exit
  refine ys_out n (by omega) (fun z => br_f (by decide) (hbad (fun ⟨b, hb, eb, _⟩ => z b hb eb))) (fun b hb eb => br_t rfl ?_)
  refine ys_out 3 (by decide) (fun z => br_f (by decide) (hbad (fun ⟨_, _, _, h, _⟩ => ?_))) (fun o ho eo => br_t rfl ?_)
  · rcases h with e | e | e
    · exact z 0 (by decide) e
    · exact z 1 (by decide) e
    · exact z 2 (by decide) e
  have hk : v2 = 0 ∨ v2 = 1 ∨ v2 = 2 := by
    have : o = 0 ∨ o = 1 ∨ o = 2 := by omega
    rcases this with e | e | e
    · exact Or.inl (by rw [eo, e]; rfl)
    · exact Or.inr (Or.inl (by rw [eo, e]; rfl))
    · exact Or.inr (Or.inr (by rw [eo, e]; rfl))
  have tg : ∀ {x : Int32}, ¬ x < 1 → x < nI n → ∃ t, 1 ≤ t ∧ t < n ∧ x = nI t := by
    intro x h1 h2
    rcases pk_ix x (n := n) (by omega) with h | h | ⟨t, ht, et⟩
    · exact absurd (Int32.lt_trans h (by decide)) h1
    · exact absurd h2 (Int32.not_lt.mpr h)
    · refine ⟨t, ?_, ht, et⟩
      by_cases z : t = 0
      · rw [et, z] at h1
        exact absurd (by decide) h1
      · omega
  have tn : ∀ {x : Int32}, (∃ t, 1 ≤ t ∧ t < n ∧ x = nI t) → ¬ x < 1 ∧ x < nI n := by
    rintro x ⟨t, h1, h2, e⟩
    subst e
    exact ⟨nI_nlt (b := 1) h1 (by omega), nI_lt h2 (by omega)⟩
  have y76 : fi_gx n v1 v2 v3 v4 v5 b → wY_exit_76 post v1 v2 v3 v4 v5 (nI n) (nI k) ym yr yb yl sz op rs fi se kd us f1 f2 yv nd ru eg yg nw yo yw := by
    intro g
    subst eb
    have c : (nI b).toNatClampNeg = b := nI_clamp (by omega)
    have vi : vp_in (nI b) 16 := vp_in_nI (by omega) (by omega)
    have y98 : ∀ u1, (¬ v2 = 1 → u1 = v3) → (v2 = 1 → u1 = -1) → wY_exit_98 post (nI b) v4 v5 u1 (nI b) (nI n) (nI k) ym yr yb yl sz op rs fi se (upd kd b v2) us f1 f2 yv nd ru eg yg nw yo yw := by
      intro u1 g1 g2
      refine ⟨vi, ?_⟩
      intro y ey
      rw [c] at ey
      subst ey
      refine ⟨vi, ?_⟩
      intro y ey
      rw [c] at ey
      subst ey
      refine ⟨vi, ?_⟩
      intro y ey
      rw [c] at ey
      subst ey
      exact hgood b u1 g g1 g2
    refine ⟨vi, ?_⟩
    intro y ey
    rw [c] at ey
    subst ey
    by_cases e1 : v2 = 1
    · exact br_t e1 (y98 (-1) (fun z => absurd e1 z) (fun _ => rfl))
    · exact br_f e1 (y98 v3 (fun _ => rfl) (fun z => absurd z e1))
  have y54 : (¬ v2 = 1 → ∃ v, v < 6 ∧ v3 = nI v) → (¬ v2 = 0 → ∃ t, 1 ≤ t ∧ t < n ∧ v4 = nI t) → wY_exit_54 post v1 v2 v3 v4 v5 (nI n) (nI k) ym yr yb yl sz op rs fi se kd us f1 f2 yv nd ru eg yg nw yo yw := by
    intro h1 h2
    by_cases e2 : v2 = 2
    · refine br_t e2 ?_
      by_cases l1 : v5 < 1
      · exact br_t l1 (hbad (fun ⟨_, _, _, _, _, _, h⟩ => (tn (h e2)).1 l1))
      · refine br_f l1 ?_
        by_cases l2 : v5 < nI n
        · exact br_t l2 (y76 ⟨hb, eb, hk, h1, h2, fun _ => tg l1 l2⟩)
        · exact br_f l2 (hbad (fun ⟨_, _, _, _, _, _, h⟩ => l2 (tn (h e2)).2))
    · exact br_f e2 (y76 ⟨hb, eb, hk, h1, h2, fun z => absurd z e2⟩)
  have y35 : (¬ v2 = 1 → ∃ v, v < 6 ∧ v3 = nI v) → wY_exit_35 post v1 v2 v3 v4 v5 (nI n) (nI k) ym yr yb yl sz op rs fi se kd us f1 f2 yv nd ru eg yg nw yo yw := by
    intro h1
    by_cases e0 : v2 = 0
    · exact br_t e0 (y54 h1 (fun z => absurd e0 z))
    · refine br_f e0 ?_
      by_cases l1 : v4 < 1
      · exact br_t l1 (hbad (fun ⟨_, _, _, _, _, h, _⟩ => (tn (h e0)).1 l1))
      · refine br_f l1 ?_
        by_cases l2 : nI n ≤ v4
        · exact br_t l2 (hbad (fun ⟨_, _, _, _, _, h, _⟩ => Int32.not_lt.mpr l2 (tn (h e0)).2))
        · exact br_f l2 (y54 h1 (fun _ => tg l1 (Int32.not_le.mp l2)))
  by_cases e1 : v2 = 1
  · exact br_t e1 (y35 (fun z => absurd e1 z))
  · refine br_f e1 (ys_out 6 (by decide) (fun z => br_f (by decide) (hbad (fun ⟨_, _, _, _, h, _⟩ => ?_))) (fun v hv ev2 => br_t rfl (y35 (fun _ => ⟨v, hv, ev2⟩))))
    obtain ⟨v, hv, ev2⟩ := h e1
    exact z v hv ev2
end
