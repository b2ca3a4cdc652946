section
variable {n k : Nat} {me ob ot oe it lr lb la : Int32} {sz kd ev th el op rs fi se dm fr lv va : Nat → Int32} {bg en : Nat → Int64}
theorem xv_110 (ok : fe_ok n kd th el) {post : Int32 → SX → Prop} {b : Nat} {p p1 : (Nat → Int64) × (Nat → Bool)} {nw : Nat → Int64} (hb : b < n) (ag : xv_ag p1 bg ob) (hw : ∀ v, v < 6 → en (6 * b + v) = nw v) (hok : ∀ v, fz_ok (nw v))
    {x3 x4 : Int32} (h3 : (x3 = 0 ∧ ¬ fz_l2 kd b (nw (ev b).toNatClampNeg)) ∨ (x3 = 1 ∧ fz_l2 kd b (nw (ev b).toNatClampNeg))) (h4 : x4 = 0 ∨ x4 = 1) (h40 : x4 = 0 → p1 = p) (h41 : x4 = 1 → fz_mu p < fz_mu p1)
    (hp : ∀ r bg' ob' oe', (r = 0 ∨ r = 1) → xv_ag (fz_s2 kd ev el b nw p1) bg' ob' → (r = 0 → fz_s2 kd ev el b nw p1 = p) → (r = 1 → fz_mu p < fz_mu (fz_s2 kd ev el b nw p1)) →
      (∀ i, bt oe' i = true ↔ (bt oe i = true ∨ (i = b ∧ fz_l2 kd b (nw (ev b).toNatClampNeg)))) → post r ((nI n), (nI k), me, ob', ot, oe', it, lr, lb, la, sz, kd, ev, th, el, op, rs, fi, se, dm, fr, lv, bg', en, va)) : wX_spreadFrom_110 post (nI b) x3 x4 (nI n) (nI k) me ob ot oe it lr lb la sz kd ev th el op rs fi se dm fr lv bg en va := by
  have hn := ok.1
  have c : (nI b).toNatClampNeg = b := nI_clamp (by omega)
  unfold fz_s2 at hp
  rcases h3 with ⟨e3, h3⟩ | ⟨e3, h3⟩
  · rw [if_neg h3] at hp
    refine br_t e3 ⟨by rcases h4 with z | z <;> rw [z] <;> rfl, hp x4 bg ob oe h4 ag h40 h41 (fun i => ⟨Or.inl, fun z => z.elim id (fun y => absurd y.2 h3)⟩)⟩
  · rw [if_pos h3] at hp
    obtain ⟨t, _, ht, et⟩ := (ok.2 b hb).2.2 h3.1
    have ct : (el b).toNatClampNeg = t := by rw [et, nI_clamp (by omega)]
    rw [ct] at hp
    refine br_f (by rw [e3]; decide) ?_
    intro y ey
    have hy : ∀ i, bt y i = true ↔ (bt oe i = true ∨ (i = b ∧ fz_l2 kd b (nw (ev b).toNatClampNeg))) := by
      intro i
      rw [ey, sl_or, sl_sg (by omega)]
      exact or_congr Iff.rfl ⟨fun z => ⟨z, h3⟩, fun z => z.1⟩
    refine ⟨vp_in_nI (by omega) (by omega), ?_⟩
    rw [c, et]
    have hmu := (fz_sp_mu (p := p1) (nw := nw) (t := t) (by omega) hok).1
    refine xv_sto (by omega) (by omega) ag hw hok (fun r bg' ob' hr ag' h0 h1 => ?_)
    rcases h4 with z | z
    · refine br_t z ?_
      rcases hr with q | q
      · exact br_t q (hp 0 bg' ob' y (Or.inl rfl) ag' (fun _ => (h0 q).trans (h40 z)) (fun w => absurd w (by decide)) hy)
      · refine br_f (by rw [q]; decide) (hp 1 bg' ob' y (Or.inr rfl) ag' (fun w => absurd w (by decide)) (fun _ => ?_) hy)
        have := h1 q
        rw [h40 z] at this ⊢
        exact this
    · refine br_f (by rw [z]; decide) (hp 1 bg' ob' y (Or.inr rfl) ag' (fun w => absurd w (by decide)) (fun _ => ?_) hy)
      have := h41 z
      omega
theorem xv_78 (ok : fe_ok n kd th el) {post : Int32 → SX → Prop} {b : Nat} {p : (Nat → Int64) × (Nat → Bool)} {nw : Nat → Int64} (hb : b < n) (ag : xv_ag p bg ob) (hw : ∀ v, v < 6 → en (6 * b + v) = nw v) (hok : ∀ v, fz_ok (nw v))
    {x2 x3 : Int32} (h2 : (x2 = 0 ∧ ¬ fz_lt kd b (nw (ev b).toNatClampNeg)) ∨ (x2 = 1 ∧ fz_lt kd b (nw (ev b).toNatClampNeg))) (h3 : (x3 = 0 ∧ ¬ fz_l2 kd b (nw (ev b).toNatClampNeg)) ∨ (x3 = 1 ∧ fz_l2 kd b (nw (ev b).toNatClampNeg)))
    (hp : ∀ r bg' ob' ot' oe', (r = 0 ∨ r = 1) → xv_ag (fz_s2 kd ev el b nw (fz_s1 kd ev th b nw p)) bg' ob' → (r = 0 → fz_s2 kd ev el b nw (fz_s1 kd ev th b nw p) = p) → (r = 1 → fz_mu p < fz_mu (fz_s2 kd ev el b nw (fz_s1 kd ev th b nw p))) →
      (∀ i, bt ot' i = true ↔ (bt ot i = true ∨ (i = b ∧ fz_lt kd b (nw (ev b).toNatClampNeg)))) →
      (∀ i, bt oe' i = true ↔ (bt oe i = true ∨ (i = b ∧ fz_l2 kd b (nw (ev b).toNatClampNeg)))) → post r ((nI n), (nI k), me, ob', ot', oe', it, lr, lb, la, sz, kd, ev, th, el, op, rs, fi, se, dm, fr, lv, bg', en, va)) : wX_spreadFrom_78 post (nI b) x2 x3 (nI n) (nI k) me ob ot oe it lr lb la sz kd ev th el op rs fi se dm fr lv bg en va := by
  have hn := ok.1
  have c : (nI b).toNatClampNeg = b := nI_clamp (by omega)
  have e1 : fz_s1 kd ev th b nw p = if fz_lt kd b (nw (ev b).toNatClampNeg) then fz_sp (th b).toNatClampNeg nw p else p := rfl
  rcases h2 with ⟨e2, h2⟩ | ⟨e2, h2⟩
  · rw [if_neg h2] at e1
    rw [e1] at hp
    refine br_t e2 (xv_110 ok hb ag hw hok h3 (Or.inl rfl) (fun _ => rfl) (fun z => absurd z (by decide)) (fun r bg' ob' oe' a1 a2 a3 a4 a5 => ?_))
    exact hp r bg' ob' ot oe' a1 a2 a3 a4 (fun i => ⟨Or.inl, fun z => z.elim id (fun y => absurd y.2 h2)⟩) a5
  · rw [if_pos h2] at e1
    obtain ⟨t, _, ht, et⟩ := (ok.2 b hb).2.1 (fz_ltn h2)
    have ct : (th b).toNatClampNeg = t := by rw [et, nI_clamp (by omega)]
    rw [ct] at e1
    rw [e1] at hp
    refine br_f (by rw [e2]; decide) ?_
    intro y ey
    have hy : ∀ i, bt y i = true ↔ (bt ot i = true ∨ (i = b ∧ fz_lt kd b (nw (ev b).toNatClampNeg))) := by
      intro i
      rw [ey, sl_or, sl_sg (by omega)]
      exact or_congr Iff.rfl ⟨fun z => ⟨z, h2⟩, fun z => z.1⟩
    refine ⟨vp_in_nI (by omega) (by omega), ?_⟩
    rw [c, et]
    refine xv_sto (by omega) (by omega) ag hw hok (fun r bg' ob' hr ag' h0 h1 => ?_)
    exact xv_110 ok hb ag' hw hok h3 hr h0 h1 (fun r bg' ob' oe' a1 a2 a3 a4 a5 => hp r bg' ob' y oe' a1 a2 a3 a4 hy a5)
theorem xv_sfr (ok : fe_ok n kd th el) (hev : fe_ev n kd ev) {post : Int32 → SX → Prop} {b : Nat} {p : (Nat → Int64) × (Nat → Bool)} {nw : Nat → Int64} (hb : b < n) (ag : xv_ag p bg ob) (hw : ∀ v, v < 6 → en (6 * b + v) = nw v) (hok : ∀ v, fz_ok (nw v))
    (hp : ∀ r bg' ob' ot' oe', (r = 0 ∨ r = 1) → xv_ag (fz_s2 kd ev el b nw (fz_s1 kd ev th b nw p)) bg' ob' → (r = 0 → fz_s2 kd ev el b nw (fz_s1 kd ev th b nw p) = p) → (r = 1 → fz_mu p < fz_mu (fz_s2 kd ev el b nw (fz_s1 kd ev th b nw p))) →
      (∀ i, bt ot' i = true ↔ (bt ot i = true ∨ (i = b ∧ fz_lt kd b (nw (ev b).toNatClampNeg)))) →
      (∀ i, bt oe' i = true ↔ (bt oe i = true ∨ (i = b ∧ fz_l2 kd b (nw (ev b).toNatClampNeg)))) → post r ((nI n), (nI k), me, ob', ot', oe', it, lr, lb, la, sz, kd, ev, th, el, op, rs, fi, se, dm, fr, lv, bg', en, va)) : wpX_spreadFrom post ((nI n), (nI k), me, ob, ot, oe, it, lr, lb, la, sz, kd, ev, th, el, op, rs, fi, se, dm, fr, lv, bg, en, va) (nI b) := by
  have hn := ok.1
  have c : (nI b).toNatClampNeg = b := nI_clamp (by omega)
  have vi : vp_in (nI b) 16 := vp_in_nI (by omega) (by omega)
  have hV : ¬ fz_V = 0 := by decide
  refine fe_cs ok hb (fun k0 => ?_) (fun t k1 _ ht e1 => ?_) (fun t t' k2 _ ht e1 _ ht' e2 => ?_)
  · have n1 : ¬ fz_lt kd b (nw (ev b).toNatClampNeg) := fun z => fz_ltn z k0
    have n2 : ¬ fz_l2 kd b (nw (ev b).toNatClampNeg) := fun z => by
      have := z.1
      rw [k0] at this
      exact absurd this (by decide)
    have e1 : fz_s1 kd ev th b nw p = p := if_neg n1
    have e2 : fz_s2 kd ev el b nw p = p := if_neg n2
    rw [e1, e2] at hp
    exact ⟨vi, br_t (by rw [c]; exact k0) (hp 0 bg ob ot oe (Or.inl rfl) ag (fun _ => rfl) (fun z => absurd z (by decide)) (fun i => ⟨Or.inl, fun z => z.elim id (fun y => absurd y.2 n1)⟩) (fun i => ⟨Or.inl, fun z => z.elim id (fun y => absurd y.2 n2)⟩))⟩
  · refine ⟨vi, br_f (by rw [c, k1]; decide) ⟨vi, br_f (by rw [c, k1]; decide) (xv_78 ok hb ag hw hok (Or.inr ⟨rfl, Or.inl k1⟩) (Or.inl ⟨rfl, fun z => ?_⟩) hp)⟩⟩
    have := z.1
    rw [k1] at this
    exact absurd this (by decide)
  · obtain ⟨v, hv, e3⟩ := hev b hb (by rw [k2]; decide)
    have cv : (ev b).toNatClampNeg = v := by rw [e3, nI_clamp (by omega)]
    have i6 : nI b * 6 + ev (nI b).toNatClampNeg = nI (6 * b + v) := by rw [c, e3, xv_6]
    have c6 : (nI (6 * b + v)).toNatClampNeg = 6 * b + v := nI_clamp (by omega)
    have n1 : ¬ kd b = 1 := by rw [k2]; decide
    refine ⟨vi, br_f (by rw [c, k2]; decide) ⟨vi, br_t (by rw [c]; exact k2) ⟨vi, by rw [i6]; exact vp_in_nI (by omega) (by omega), ?_⟩⟩⟩
    intro y ey
    rw [i6, c6, hw v hv] at ey
    subst ey
    by_cases z : nw v = 0
    · refine br_t z (br_t z (xv_78 ok hb ag hw hok (Or.inl ⟨rfl, ?_⟩) (Or.inr ⟨rfl, k2, Or.inl (by rw [cv]; exact z)⟩) hp))
      rw [cv]
      exact fun w => w.elim n1 (fun q => q.2 z)
    · refine br_f z (br_f z ?_)
      have l1 : fz_lt kd b (nw (ev b).toNatClampNeg) := Or.inr ⟨k2, by rw [cv]; exact z⟩
      by_cases q : nw v = fz_V
      · exact br_t q (xv_78 ok hb ag hw hok (Or.inr ⟨rfl, l1⟩) (Or.inr ⟨rfl, k2, Or.inr (by rw [cv]; exact q)⟩) hp)
      · refine br_f q (xv_78 ok hb ag hw hok (Or.inr ⟨rfl, l1⟩) (Or.inl ⟨rfl, fun w => ?_⟩) hp)
        rw [cv] at w
        exact w.2.elim z q
end
theorem fz_tgo {n : Nat} {kd th el : Nat → Int32} (ok : fe_ok n kd th el) : fz_tg n kd th el := by
  refine ⟨ok.1, fun x hx => ⟨fun k => ?_, fun k => ?_⟩⟩
  · obtain ⟨t, _, ht, e⟩ := (ok.2 x hx).2.1 k
    have := ok.1
    rw [e, nI_clamp (by omega)]
    exact ht
  · obtain ⟨t, _, ht, e⟩ := (ok.2 x hx).2.2 k
    have := ok.1
    rw [e, nI_clamp (by omega)]
    exact ht
/-- what the class holds in the midst of its rounds -/
def xv_in (n : Nat) (sz kd ev op rs fi se : Nat → Int32) (p : (Nat → Int64) × (Nat → Bool)) (bg en : Nat → Int64) (ob ot oe : Int32) : Prop :=
  xv_ag p bg ob ∧ fz_iv n p ∧ (∀ b, p.2 b = false → ∀ v, v < 6 → b < 16 → en (6 * b + v) = fz_N) ∧
  (∀ b, bt ot b = true → p.2 b = true ∧ fz_lt kd b (fz_en sz op rs fi se p.1 b (ev b).toNatClampNeg)) ∧
  (∀ b, bt oe b = true → p.2 b = true ∧ fz_l2 kd b (fz_en sz op rs fi se p.1 b (ev b).toNatClampNeg))
/-- and at their end -/
def xv_fi (n k : Nat) (sz kd ev th el op rs fi se : Nat → Int32) (p : (Nat → Int64) × (Nat → Bool)) (bg en : Nat → Int64) (ob ot oe : Int32) : Prop :=
  fz_so sz kd ev th el op rs fi se n (fz_p0 n k) p ∧ xv_in n sz kd ev op rs fi se p bg en ob ot oe ∧
  (∀ b, p.2 b = true → (∀ v, v < 6 → en (6 * b + v) = fz_en sz op rs fi se p.1 b v) ∧ (fz_lt kd b (fz_en sz op rs fi se p.1 b (ev b).toNatClampNeg) → bt ot b = true) ∧ (fz_l2 kd b (fz_en sz op rs fi se p.1 b (ev b).toNatClampNeg) → bt oe b = true))
section
variable {n k : Nat} {me ob ot oe it lr lb la : Int32} {sz kd ev th el op rs fi se dm fr lv va : Nat → Int32} {bg en : Nat → Int64}
theorem xv_rd (ok : fe_ok n kd th el) (hev : fe_ev n kd ev) (is : fe_is n sz op rs fi se) {post : SX → Prop}
    {J : Int32 → Int32 → Int32 → Int32 → Int32 → Int32 → Int32 → Int32 → Int32 → Int32 → Int32 → Int32 → (Nat → Int32) → (Nat → Int32) → (Nat → Int32) → (Nat → Int32) → (Nat → Int32) → (Nat → Int32) → (Nat → Int32) → (Nat → Int32) → (Nat → Int32) → (Nat → Int32) → (Nat → Int32) → (Nat → Int32) → (Nat → Int64) → (Nat → Int64) → (Nat → Int32) → Prop}
    {r : Nat} {p0 : (Nat → Int64) × (Nat → Bool)} (hp0 : fz_iv n p0)
    (hJ : ∀ ch p bg' en' ob' ot' oe', p = fz_rd sz kd ev th el op rs fi se p0 n → xv_in n sz kd ev op rs fi se p bg' en' ob' ot' oe' →
      ((ch = 1 ∧ fz_mu p0 < fz_mu p) ∨ (ch = 0 ∧ p = p0 ∧ ∀ b, b < n → p0.2 b = true → (∀ v, v < 6 → en' (6 * b + v) = fz_en sz op rs fi se p0.1 b v) ∧ (fz_lt kd b (fz_en sz op rs fi se p0.1 b (ev b).toNatClampNeg) → bt ot' b = true) ∧ (fz_l2 kd b (fz_en sz op rs fi se p0.1 b (ev b).toNatClampNeg) → bt oe' b = true))) →
      J ch (nI (r + 1)) (nI n) (nI k) me ob' ot' oe' it lr lb la sz kd ev th el op rs fi se dm fr lv bg' en' va) :
    ∀ m x ch p bg' en' ob' ot' oe', x ≤ n → n - x < m → p = fz_rd sz kd ev th el op rs fi se p0 x → xv_in n sz kd ev op rs fi se p bg' en' ob' ot' oe' →
      ((ch = 1 ∧ fz_mu p0 < fz_mu p) ∨ (ch = 0 ∧ p = p0 ∧ ∀ b, b < x → p0.2 b = true → (∀ v, v < 6 → en' (6 * b + v) = fz_en sz op rs fi se p0.1 b v) ∧ (fz_lt kd b (fz_en sz op rs fi se p0.1 b (ev b).toNatClampNeg) → bt ot' b = true) ∧ (fz_l2 kd b (fz_en sz op rs fi se p0.1 b (ev b).toNatClampNeg) → bt oe' b = true))) →
      wX_solveValues_70 post J (nI r) m ch (nI x) (nI n) (nI k) me ob' ot' oe' it lr lb la sz kd ev th el op rs fi se dm fr lv bg' en' va := by
  have hn := ok.1
  have htg := fz_tgo ok
  intro m
  induction m with
  | zero => intro x ch p bg' en' ob' ot' oe' _ h; omega
  | succ m ih =>
    intro x ch p bg' en' ob' ot' oe' hx hm ep hi hch
    by_cases e : x = n
    · have e' := e.symm
      subst e'
      exact br_t (Int32.le_refl _) (nm_r (nI_1 r) (hJ ch p bg' en' ob' ot' oe' ep hi hch))
    · have hxn : x < n := by omega
      obtain ⟨ag, iv, hc, hd, he⟩ := hi
      refine br_f (nI_ge hxn (by omega)) (xs_has (by omega) (fun z => br_t rfl (nm_r (nI_1 x) ?_)) (fun z => br_f (by decide) ?_))
      · have z2 : ¬ p.2 x = true := fun w => z ((ag.2 x).trans w)
        have e2 : fz_rd sz kd ev th el op rs fi se p0 (x + 1) = p := by
          show fz_st sz kd ev th el op rs fi se x (fz_rd sz kd ev th el op rs fi se p0 x) = p
          rw [← ep]
          exact if_neg z2
        refine ih (x + 1) ch p bg' en' ob' ot' oe' (by omega) (by omega) e2.symm ⟨ag, iv, hc, hd, he⟩ ?_
        rcases hch with w | ⟨w1, w2, w3⟩
        · exact Or.inl w
        · refine Or.inr ⟨w1, w2, fun b hb hb2 => ?_⟩
          by_cases eb : b = x
          · rw [eb, ← w2] at hb2
            exact absurd hb2 z2
          · exact w3 b (by omega) hb2
      · have z2 : p.2 x = true := (ag.2 x).symm.trans z
        have nok := fz_enok (sz := sz) (op := op) (d := rs) (a := fi) (b := se) iv z2
        refine xv_wt hn is (B := p.1) hxn (fun v hv => ag.1 _ (by omega)) (fun en2 hen1 hen2 => ?_)
        refine xv_sfr ok hev hxn ag hen1 nok (fun rr bg2 ob2 ot2 oe2 hr ag2 hr0 hr1 hot hoe => ?_)
        have e2 : fz_rd sz kd ev th el op rs fi se p0 (x + 1) = fz_s2 kd ev el x (fz_en sz op rs fi se p.1 x) (fz_s1 kd ev th x (fz_en sz op rs fi se p.1 x) p) := by
          show fz_st sz kd ev th el op rs fi se x (fz_rd sz kd ev th el op rs fi se p0 x) = _
          rw [← ep]
          exact if_pos z2
        have sta := fz_sta (sz := sz) (ev := ev) (op := op) (d := rs) (a := fi) (b := se) (x := x) htg hxn iv
        have e3 : fz_st sz kd ev th el op rs fi se x p = fz_s2 kd ev el x (fz_en sz op rs fi se p.1 x) (fz_s1 kd ev th x (fz_en sz op rs fi se p.1 x) p) := if_pos z2
        rw [e3] at sta
        generalize fz_s2 kd ev el x (fz_en sz op rs fi se p.1 x) (fz_s1 kd ev th x (fz_en sz op rs fi se p.1 x) p) = p2 at *
        obtain ⟨iv2, ge2, mu2⟩ := sta
        have hi2 : xv_in n sz kd ev op rs fi se p2 bg2 en2 ob2 ot2 oe2 := by
          refine ⟨ag2, iv2, fun b hb v hv hb16 => ?_, fun b hb => ?_, fun b hb => ?_⟩
          · have hpb : p.2 b = false := by
              cases q : p.2 b
              · rfl
              · rw [(ge2 b q).1] at hb
                exact absurd hb (by decide)
            have hbx : ¬ b = x := fun q => by
              rw [q, z2] at hpb
              exact absurd hpb (by decide)
            rw [hen2 _ (by omega)]
            exact hc b hpb v hv hb16
          · rcases (hot b).mp hb with q | ⟨q1, q2⟩
            · have q2 := hd b q
              exact ⟨(ge2 b q2.1).1, fz_ltm (fz_enm ge2 q2.1 _) q2.2⟩
            · rw [q1]
              exact ⟨(ge2 x z2).1, fz_ltm (fz_enm ge2 z2 _) q2⟩
          · rcases (hoe b).mp hb with q | ⟨q1, q2⟩
            · have q2 := he b q
              exact ⟨(ge2 b q2.1).1, fz_l2m (fz_enm ge2 q2.1 _) q2.2⟩
            · rw [q1]
              exact ⟨(ge2 x z2).1, fz_l2m (fz_enm ge2 z2 _) q2⟩
        rcases hch with ⟨w1, w2⟩ | ⟨w1, w2, w3⟩
        · refine br_f (by rw [w1]; decide) (nm_r (nI_1 x) (ih (x + 1) 1 p2 bg2 en2 ob2 ot2 oe2 (by omega) (by omega) e2.symm hi2 (Or.inl ⟨rfl, by omega⟩)))
        · refine br_t w1 ?_
          rcases hr with q | q
          · refine br_t q (nm_r (nI_1 x) (ih (x + 1) 0 p2 bg2 en2 ob2 ot2 oe2 (by omega) (by omega) e2.symm hi2 (Or.inr ⟨rfl, (hr0 q).trans w2, fun b hb hb2 => ?_⟩)))
            by_cases eb : b = x
            · subst eb
              rw [w2] at hen1 hot hoe
              exact ⟨hen1, fun l => (hot b).mpr (Or.inr ⟨rfl, l⟩), fun l => (hoe b).mpr (Or.inr ⟨rfl, l⟩)⟩
            · have w4 := w3 b (by omega) hb2
              refine ⟨fun v hv => ?_, fun l => (hot b).mpr (Or.inl (w4.2.1 l)), fun l => (hoe b).mpr (Or.inl (w4.2.2 l))⟩
              rw [hen2 _ (by omega)]
              exact w4.1 v hv
          · refine br_f (by rw [q]; decide) (nm_r (nI_1 x) (ih (x + 1) 1 p2 bg2 en2 ob2 ot2 oe2 (by omega) (by omega) e2.symm hi2 (Or.inl ⟨rfl, ?_⟩)))
            have := hr1 q
            rw [← w2]
            exact this
end
