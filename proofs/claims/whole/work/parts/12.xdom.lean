theorem xs_ix (b i : Nat) : (nI b * 4) + nI i = nI (4 * b + i) := by
  show nI b * nI 4 + nI i = _
  rw [pk_mul, nI_add, Nat.mul_comm]
/-- block x sets v -/
def fe_se (sz rs : Nat → Int32) (x : Nat) (v : Int32) : Prop := ∃ q, q < (sz x).toNatClampNeg ∧ rs (4 * x + q) = v
/-- where v is set: block 0 begins every variable -/
def fe_sc (n : Nat) (sz rs : Nat → Int32) (v : Int32) (x : Nat) : Prop := x = 0 ∨ (x < n ∧ fe_se sz rs x v)
theorem fd_F16 {n : Nat} {kd th el : Nat → Int32} (ok : fe_ok n kd th el) {x i : Nat} (h : fd_F (fe_E n kd th el) (fe_st n) x i) : x < 16 ∧ i < 16 ∧ fd_M (fe_E n kd th el) (fe_st n) x := by
  obtain ⟨⟨y, h1, h2⟩, _⟩ := h
  have h3 := fe_Mn ok h1.1
  have := ok.1
  exact ⟨by omega, fe_E16 ok _ _ h2, h1.1⟩
section
variable {n k : Nat} {me ob ot oe it lr lb la : Int32} {sz kd ev th el op rs fi se dm fr lv va : Nat → Int32} {bg en : Nat → Int64}
theorem xs_par (ok : fe_ok n kd th el) {post : Int32 → SX → Prop} {v1 : Int32} (h0 : (∀ j, j < n → ¬ v1 = nI j) → post (-1) ((nI n), (nI k), me, ob, ot, oe, it, lr, lb, la, sz, kd, ev, th, el, op, rs, fi, se, dm, fr, lv, bg, en, va))
    (h1 : ∀ b, b < n → v1 = nI b → ∀ r me' dm' fr', fd_P (fe_E n kd th el) (fe_st n) b r → post r ((nI n), (nI k), me', ob, ot, oe, it, lr, lb, la, sz, kd, ev, th, el, op, rs, fi, se, dm', fr', lv, bg, en, va)) : wpX_parent post ((nI n), (nI k), me, ob, ot, oe, it, lr, lb, la, sz, kd, ev, th, el, op, rs, fi, se, dm, fr, lv, bg, en, va) v1 := by
  unfold wpX_parent
  have hn := ok.1
  refine xs_isB hn (fun z => br_t rfl (h0 z)) (fun b hb e => br_f (by decide) ?_)
  refine xs_sol ok (fun me' dm' fr' hd => ?_)
  obtain ⟨hm, hD, hF⟩ := hd
  have cb : (nI b).toNatClampNeg = b := nI_clamp (by omega)
  have L : ∀ m a (r : Int32), a ≤ 16 → 16 - a < m →
      ((r = -1 ∧ ∀ x, x < a → ¬ x = b → ¬ fd_D (fe_E n kd th el) (fe_st n) x b) ∨ (∃ c, c < 16 ∧ r = nI c ∧ ¬ c = b ∧ fd_D (fe_E n kd th el) (fe_st n) c b ∧ ∀ x, x < a → ¬ x = b → fd_D (fe_E n kd th el) (fe_st n) x b → fd_D (fe_E n kd th el) (fe_st n) x c)) →
      wX_parent_18 post (nI b) (nI n) (nI k) me' ob ot oe it lr lb la sz kd ev th el op rs fi se dm' fr' lv bg en va m r (nI a) := by
    intro m
    induction m with
    | zero => intro j f _ h; omega
    | succ m ih =>
      intro a r hj hmm hi
      by_cases ea : a = 16
      · subst ea
        refine br_t (by decide) (h1 b hb e r me' dm' fr' ?_)
        have hlt : ∀ x, fd_D (fe_E n kd th el) (fe_st n) x b → x < 16 := fun x hx => by
          have := fe_Mn ok hx.1
          omega
        rcases hi with ⟨q, w⟩ | ⟨c, _, q, nc, dc, w⟩
        · exact Or.inl ⟨q, fun x nx hx => w x (hlt x hx) nx hx⟩
        · exact Or.inr ⟨c, q, nc, dc, fun x nx hx => w x (hlt x hx) nx hx⟩
      · have ha : a < 16 := by omega
        have c : (nI a).toNatClampNeg = a := nI_clamp (by omega)
        have vi : vp_in (nI a) 16 := vp_in_nI (by omega) (by omega)
        refine br_f (nI_ge (b := 16) (by omega) (by decide)) ?_
        by_cases eb : a = b
        · refine br_t (by rw [eb]) (nm_r (nI_1 a) (ih (a + 1) r (by omega) (by omega) ?_))
          rcases hi with ⟨q, w⟩ | ⟨d, ld, q, nc, dc, w⟩
          · exact Or.inl ⟨q, fun x hx nx => w x (by omega) nx⟩
          · exact Or.inr ⟨d, ld, q, nc, dc, fun x hx nx => w x (by omega) nx⟩
        · refine br_f (fun z => eb ((nI_eq (by omega) (by omega)).mp z)) ⟨vi, xs_has (by omega) (fun z => br_t rfl (nm_r (nI_1 a) (ih (a + 1) r (by omega) (by omega) ?_))) (fun z => br_f (by decide) ?_)⟩
          · rw [c, hD a ha] at z
            rcases hi with ⟨q, w⟩ | ⟨d, ld, q, nc, dc, w⟩
            · refine Or.inl ⟨q, fun x hx nx => ?_⟩
              by_cases ex : x = a
              · rw [ex]; exact z
              · exact w x (by omega) nx
            · refine Or.inr ⟨d, ld, q, nc, dc, fun x hx nx hxb => ?_⟩
              by_cases ex : x = a
              · rw [ex] at hxb; exact absurd hxb z
              · exact w x (by omega) nx hxb
          · rw [c, hD a ha] at z
            have new : (∀ x, x < a → ¬ x = b → fd_D (fe_E n kd th el) (fe_st n) x b → fd_D (fe_E n kd th el) (fe_st n) x a) → wX_parent_18 post (nI b) (nI n) (nI k) me' ob ot oe it lr lb la sz kd ev th el op rs fi se dm' fr' lv bg en va m (nI a) (nI (a + 1)) := by
              intro w
              refine ih (a + 1) (nI a) (by omega) (by omega) (Or.inr ⟨a, ha, rfl, eb, z, fun x hx nx hxb => ?_⟩)
              by_cases ex : x = a
              · rw [ex]; exact fd_rf z.1
              · exact w x (by omega) nx hxb
            rcases hi with ⟨q, w⟩ | ⟨d, ld, q, nc, dc, w⟩
            · refine br_t (by rw [q]; decide) (nm_r (nI_1 a) (new (fun x hx nx hxb => absurd hxb (w x hx nx))))
            · subst q
              have cd : (nI d).toNatClampNeg = d := nI_clamp (by omega)
              refine br_f (nI_pos (by omega)) ⟨vp_in_nI ld (by omega), xs_has (by omega) (fun y => br_t rfl (nm_r (nI_1 a) ?_)) (fun y => br_f (by decide) (nm_r (nI_1 a) ?_))⟩
              · rw [cd, hD d ld] at y
                refine ih (a + 1) (nI d) (by omega) (by omega) (Or.inr ⟨d, ld, rfl, nc, dc, fun x hx nx hxb => ?_⟩)
                by_cases ex : x = a
                · rw [ex]
                  exact (fd_li z dc).resolve_right y
                · exact w x (by omega) nx hxb
              · rw [cd, hD d ld] at y
                exact new (fun x hx nx hxb => fd_tr (w x hx nx hxb) y)
  rw [e]
  exact ⟨17, L 17 0 (-1) (by omega) (by omega) (Or.inl ⟨rfl, fun x hx => absurd hx (Nat.not_lt_zero x)⟩)⟩
theorem xs_dms (ok : fe_ok n kd th el) {post : Int32 → SX → Prop} {v1 v2 : Int32} (h0 : ∀ me' dm' fr', ¬ (∃ a b, a < n ∧ b < n ∧ v1 = nI a ∧ v2 = nI b ∧ fd_D (fe_E n kd th el) (fe_st n) a b) → post 0 ((nI n), (nI k), me', ob, ot, oe, it, lr, lb, la, sz, kd, ev, th, el, op, rs, fi, se, dm', fr', lv, bg, en, va))
    (h1 : ∀ me' dm' fr', (∃ a b, a < n ∧ b < n ∧ v1 = nI a ∧ v2 = nI b ∧ fd_D (fe_E n kd th el) (fe_st n) a b) → post 1 ((nI n), (nI k), me', ob, ot, oe, it, lr, lb, la, sz, kd, ev, th, el, op, rs, fi, se, dm', fr', lv, bg, en, va)) : wpX_dominates post ((nI n), (nI k), me, ob, ot, oe, it, lr, lb, la, sz, kd, ev, th, el, op, rs, fi, se, dm, fr, lv, bg, en, va) v1 v2 := by
  unfold wpX_dominates
  have hn := ok.1
  refine xs_isB hn (fun z => br_t rfl (h0 me dm fr (fun ⟨a, b, hla, hlb, ea, eb, _⟩ => z a hla ea))) (fun a hla ea => br_f (by decide) ?_)
  refine xs_isB hn (fun z => br_t rfl (h0 me dm fr (fun ⟨a, b, hla, hlb, ea, eb, _⟩ => z b hlb eb))) (fun b hlb eb => br_f (by decide) ?_)
  refine xs_sol ok (fun me' dm' fr' hd => ?_)
  subst ea
  subst eb
  have c : (nI a).toNatClampNeg = a := nI_clamp (by omega)
  refine ⟨vp_in_nI (by omega) (by omega), xs_has (by omega) (fun z => ⟨rfl, h0 me' dm' fr' (fun ⟨a', b', hla', hlb', ea', eb', q⟩ => z ?_)⟩) (fun z => ⟨rfl, h1 me' dm' fr' ⟨a, b, hla, hlb, rfl, rfl, ?_⟩⟩)⟩
  · rw [c, hd.2.1 a (by omega)]
    rw [(nI_eq (by omega) (by omega)).mp ea', (nI_eq (by omega) (by omega)).mp eb']
    exact q
  · rw [c, hd.2.1 a (by omega)] at z
    exact z
theorem xs_frt (ok : fe_ok n kd th el) {post : Int32 → SX → Prop} {v1 : Int32} (h1 : ∀ r me' dm' fr', (∀ i, bt r i = true ↔ ∃ a, a < n ∧ v1 = nI a ∧ fd_F (fe_E n kd th el) (fe_st n) a i) → post r ((nI n), (nI k), me', ob, ot, oe, it, lr, lb, la, sz, kd, ev, th, el, op, rs, fi, se, dm', fr', lv, bg, en, va)) : wpX_frontier post ((nI n), (nI k), me, ob, ot, oe, it, lr, lb, la, sz, kd, ev, th, el, op, rs, fi, se, dm, fr, lv, bg, en, va) v1 := by
  unfold wpX_frontier
  have hn := ok.1
  refine xs_isB hn (fun z => br_t rfl (h1 0 me dm fr (fun i => ⟨fun q => absurd q (sl_no i), fun ⟨a, hla, ea, _⟩ => absurd ea (z a hla)⟩))) (fun a hla ea => br_f (by decide) ?_)
  refine xs_sol ok (fun me' dm' fr' hd => ?_)
  subst ea
  have c : (nI a).toNatClampNeg = a := nI_clamp (by omega)
  refine ⟨vp_in_nI (by omega) (by omega), h1 _ me' dm' fr' (fun i => ?_)⟩
  rw [c, hd.2.2 a (by omega) i]
  refine ⟨fun q => ⟨a, hla, rfl, q⟩, fun ⟨a', hla', e', q⟩ => ?_⟩
  rw [(nI_eq (by omega) (by omega)).mp e']
  exact q
theorem xs_set (ok : fe_ok n kd th el) (is : fe_is n sz op rs fi se) {post : Int32 → Prop} {v : Int32} (hp : ∀ r, (∀ i, bt r i = true ↔ (i < n ∧ fe_se sz rs i v)) → post r) : wpX_settersOf post ((nI n), (nI k), me, ob, ot, oe, it, lr, lb, la, sz, kd, ev, th, el, op, rs, fi, se, dm, fr, lv, bg, en, va) v := by
  have hn := ok.1
  have L2 : ∀ (J : Int32 → Int32 → Prop) (b s : Nat) (f0 : Int32), b < n → s ≤ 4 → sz b = nI s → (∀ f, (∀ i, bt f i = true ↔ (bt f0 i = true ∨ (i = b ∧ fe_se sz rs b v))) → J f (nI (b + 1))) →
      ∀ m q f, q ≤ s → s - q < m → sl_in (fun i => bt f0 i = true) (fun q i => i = b ∧ rs (4 * b + q) = v) q f → wX_settersOf_15 post J v (nI b) (nI n) (nI k) me ob ot oe it lr lb la sz kd ev th el op rs fi se dm fr lv bg en va m f (nI q) := by
    intro J b s f0 hb hs es hJ m
    have cb : (nI b).toNatClampNeg = b := nI_clamp (by omega)
    have vb : vp_in (nI b) 16 := vp_in_nI (by omega) (by omega)
    induction m with
    | zero => intro j f _ h; omega
    | succ m ih =>
      intro q f hq hm hi
      by_cases eq : q = s
      · subst eq
        refine ⟨vb, br_t (by rw [cb, es]; exact Int32.le_refl _) (nm_r (nI_1 b) (hJ f (fun i => ?_)))⟩
        rw [hi i]
        refine or_congr Iff.rfl ⟨fun ⟨x, hx, g1, g2⟩ => ⟨g1, x, by rw [es, nI_clamp (by omega)]; exact hx, g2⟩, fun ⟨g1, x, hx, g2⟩ => ⟨x, ?_, g1, g2⟩⟩
        rw [es, nI_clamp (by omega)] at hx
        exact hx
      · have e4 := xs_ix b q
        have c4 : (nI (4 * b + q)).toNatClampNeg = 4 * b + q := nI_clamp (by omega)
        refine ⟨vb, br_f (by rw [cb, es]; exact nI_ge (by omega) (by omega)) ⟨by rw [e4]; exact vp_in_nI (by omega) (by omega), ?_⟩⟩
        by_cases z : rs (4 * b + q) = v
        · refine br_t (by rw [e4, c4]; exact z) ?_
          intro y ey
          refine nm_r (nI_1 q) (ih (q + 1) y (by omega) (by omega) (sl_1 hi (fun i => ?_)))
          rw [ey, sl_or, sl_sg (by omega)]
          exact or_congr Iff.rfl ⟨fun g => ⟨g, z⟩, fun g => g.1⟩
        · refine br_f (by rw [e4, c4]; exact z) (nm_r (nI_1 q) (ih (q + 1) f (by omega) (by omega) (sl_n hi (fun i g => z g.2))))
  have L : ∀ m j f, j ≤ n → n - j < m → sl_in (fun _ => False) (fun x i => i = x ∧ (x < n ∧ fe_se sz rs x v)) j f → wX_settersOf_4 post v (nI n) (nI k) me ob ot oe it lr lb la sz kd ev th el op rs fi se dm fr lv bg en va m f (nI j) := by
    intro m
    induction m with
    | zero => intro j f _ h; omega
    | succ m ih =>
      intro j f hj hm hi
      by_cases e : j = n
      · subst e
        refine br_t (Int32.le_refl _) (hp f (fun i => ?_))
        rw [sl_e hi (fun x i g => g.2.1)]
        exact ⟨fun z => z.elim False.elim (fun ⟨x, g1, g2⟩ => by rw [g1]; exact g2), fun z => Or.inr ⟨i, rfl, z⟩⟩
      · obtain ⟨s, hs, es, _⟩ := is j (by omega)
        refine br_f (nI_ge (by omega) (by omega)) ⟨s + 1, L2 _ j s f (by omega) hs es (fun f' hf => ?_) (s + 1) 0 f (by omega) (by omega) (sl_0 (fun i => Iff.rfl))⟩
        refine ih (j + 1) f' (by omega) (by omega) (sl_1 hi (fun i => ?_))
        rw [hf i]
        exact or_congr Iff.rfl ⟨fun g => ⟨g.1, by omega, g.2⟩, fun g => ⟨g.1, g.2.2⟩⟩
  exact ⟨n + 1, L (n + 1) 0 0 (by omega) (by omega) (sl_00 (fun _ z => z))⟩
theorem xs_fof (ok : fe_ok n kd th el) (hd : xs_dom n kd th el me dm fr) {post : Int32 → Prop} {set : Int32} (hp : ∀ r, (∀ i, bt r i = true ↔ ∃ x, bt set x = true ∧ fd_F (fe_E n kd th el) (fe_st n) x i) → post r) : wpX_frontiersOf post ((nI n), (nI k), me, ob, ot, oe, it, lr, lb, la, sz, kd, ev, th, el, op, rs, fi, se, dm, fr, lv, bg, en, va) set := by
  have L : ∀ m j f, j ≤ 16 → 16 - j < m → sl_in (fun _ => False) (fun x i => bt set x = true ∧ fd_F (fe_E n kd th el) (fe_st n) x i) j f → wX_frontiersOf_4 post set (nI n) (nI k) me ob ot oe it lr lb la sz kd ev th el op rs fi se dm fr lv bg en va m f (nI j) := by
    intro m
    induction m with
    | zero => intro j f _ h; omega
    | succ m ih =>
      intro j f hj hm hi
      by_cases e : j = 16
      · subst e
        refine br_t (by decide) (hp f (fun i => ?_))
        rw [sl_e hi (fun x i g => (fd_F16 ok g.2).1)]
        exact ⟨fun z => z.elim False.elim id, Or.inr⟩
      · have c : (nI j).toNatClampNeg = j := nI_clamp (by omega)
        refine br_f (nI_ge (b := 16) (by omega) (by decide)) (xs_has (by omega) (fun z => br_t rfl (nm_r (nI_1 j) (ih (j + 1) f (by omega) (by omega) (sl_n hi (fun i g => z g.1))))) (fun z => br_f (by decide) ⟨vp_in_nI (by omega) (by omega), ?_⟩))
        intro y ey
        rw [c] at ey
        refine nm_r (nI_1 j) (ih (j + 1) y (by omega) (by omega) (sl_1 hi (fun i => ?_)))
        rw [ey, sl_or, hd.2.2 j (by omega) i]
        exact or_congr Iff.rfl ⟨fun g => ⟨z, g⟩, fun g => g.2⟩
  exact ⟨17, L 17 0 0 (by omega) (by omega) (sl_00 (fun _ z => z))⟩
theorem xs_mp (ok : fe_ok n kd th el) (is : fe_is n sz op rs fi se) (hd : xs_dom n kd th el me dm fr) {post : Int32 → Prop} {v : Int32} (hp : ∀ r, (∀ i, bt r i = true ↔ fd_G (fe_E n kd th el) (fe_st n) (fe_sc n sz rs v) i) → post r) : wpX_mergePlaces post ((nI n), (nI k), me, ob, ot, oe, it, lr, lb, la, sz, kd, ev, th, el, op, rs, fi, se, dm, fr, lv, bg, en, va) v := by
  unfold wpX_mergePlaces
  refine xs_set ok is (fun s hs => ?_)
  intro src esrc
  have hsrc : ∀ x, bt src x = true ↔ (fd_M (fe_E n kd th el) (fe_st n) x ∧ fe_sc n sz rs v x) := by
    intro x
    rw [esrc, sl_an, sl_or, sl_b1, hs x, hd.1 x]
    exact and_congr Iff.rfl ⟨fun z => z.elim Or.inr Or.inl, fun z => z.elim Or.inr Or.inl⟩
  have hS : ∀ z, (∃ x, bt src x = true ∧ fd_F (fe_E n kd th el) (fe_st n) x z) → z < 16 := fun z ⟨x, _, h⟩ => (fd_F16 ok h).2.1
  have hE : ∀ x z, fd_F (fe_E n kd th el) (fe_st n) x z → z < 16 := fun x z h => (fd_F16 ok h).2.1
  have L : ∀ m j p, j ≤ 16 → 16 - j < m → fg_in (fd_F (fe_E n kd th el) (fe_st n)) (fun z => ∃ x, bt src x = true ∧ fd_F (fe_E n kd th el) (fe_st n) x z) j p → wX_mergePlaces_21 post src (nI n) (nI k) me ob ot oe it lr lb la sz kd ev th el op rs fi se dm fr lv bg en va m p (nI j) := by
    intro m
    induction m with
    | zero => intro j f _ h; omega
    | succ m ih =>
      intro j p hj hm hi
      by_cases e : j = 16
      · subst e
        refine br_t (by decide) (hp p (fun i => ?_))
        rw [fg_e hS hE hi i]
        exact fd_Ge (s1 := fun x => bt src x = true) (fun x mx => ⟨fun z => ((hsrc x).mp z).2, fun z => (hsrc x).mpr ⟨mx, z⟩⟩)
      · refine br_f (nI_ge (b := 16) (by omega) (by decide)) (xs_fof ok hd (fun r hr => nm_r (nI_1 j) (ih (j + 1) r (by omega) (by omega) (fg_1 hS hE hi (fun i => ?_)))))
        rw [hr i]
        constructor
        · rintro ⟨x, hx, f⟩
          rcases (sl_or _ _ _).mp hx with q | q
          · exact Or.inl ⟨x, q, f⟩
          · exact Or.inr ⟨x, q, f⟩
        · rintro (⟨x, q, f⟩ | ⟨x, q, f⟩)
          · exact ⟨x, (sl_or _ _ _).mpr (Or.inl q), f⟩
          · exact ⟨x, (sl_or _ _ _).mpr (Or.inr q), f⟩
  exact ⟨17, L 17 0 0 (by omega) (by omega) fg_0⟩
theorem xs_mer (ok : fe_ok n kd th el) (is : fe_is n sz op rs fi se) {post : Int32 → SX → Prop} {v1 : Int32}
    (h1 : ∀ r me' dm' fr', (∀ i, bt r i = true ↔ (i < 6 ∧ ∃ b, b < n ∧ v1 = nI b ∧ fd_G (fe_E n kd th el) (fe_st n) (fe_sc n sz rs (nI i)) b)) → post r ((nI n), (nI k), me', ob, ot, oe, it, lr, lb, la, sz, kd, ev, th, el, op, rs, fi, se, dm', fr', lv, bg, en, va)) : wpX_merges post ((nI n), (nI k), me, ob, ot, oe, it, lr, lb, la, sz, kd, ev, th, el, op, rs, fi, se, dm, fr, lv, bg, en, va) v1 := by
  unfold wpX_merges
  have hn := ok.1
  refine xs_isB hn (fun z => br_t rfl (h1 0 me dm fr (fun i => ⟨fun q => absurd q (sl_no i), fun ⟨_, a, hla, ea, _⟩ => absurd ea (z a hla)⟩))) (fun b hlb eb => br_f (by decide) ?_)
  refine xs_sol ok (fun me' dm' fr' hd => ?_)
  subst eb
  have L : ∀ m j f, j ≤ 6 → 6 - j < m → sl_in (fun _ => False) (fun v i => i = v ∧ (v < 6 ∧ fd_G (fe_E n kd th el) (fe_st n) (fe_sc n sz rs (nI v)) b)) j f → wX_merges_18 post (nI b) (nI n) (nI k) me' ob ot oe it lr lb la sz kd ev th el op rs fi se dm' fr' lv bg en va m f (nI j) := by
    intro m
    induction m with
    | zero => intro j f _ h; omega
    | succ m ih =>
      intro j f hj hm hi
      by_cases e : j = 6
      · subst e
        refine br_t (by decide) (h1 f me' dm' fr' (fun i => ?_))
        rw [sl_e hi (fun x i g => g.2.1)]
        constructor
        · rintro (z | ⟨x, g1, g2, g3⟩)
          · exact z.elim
          · rw [g1]
            exact ⟨g2, b, hlb, rfl, g3⟩
        · rintro ⟨g2, b', hlb', e', g3⟩
          rw [← (nI_eq (by omega) (by omega)).mp e'] at g3
          exact Or.inr ⟨i, rfl, g2, g3⟩
      · refine br_f (nI_ge (b := 6) (by omega) (by decide)) (xs_mp ok is hd (fun r hr => xs_has (by omega) (fun z => br_t rfl (nm_r (nI_1 j) (ih (j + 1) f (by omega) (by omega) (sl_n hi (fun i g => z ((hr b).mpr g.2.2)))))) (fun z => br_f (by decide) ?_)))
        intro y ey
        refine nm_r (nI_1 j) (ih (j + 1) y (by omega) (by omega) (sl_1 hi (fun i => ?_)))
        rw [ey, sl_or, sl_sg (by omega)]
        exact or_congr Iff.rfl ⟨fun g => ⟨g, by omega, (hr b).mp z⟩, fun g => g.1⟩
  exact ⟨7, L 7 0 0 (by omega) (by omega) (sl_00 (fun _ z => z))⟩
theorem xs_pre (ok : fe_ok n kd th el) {post : Int32 → Prop} {set : Int32} (hp : ∀ r, (∀ i, bt r i = true ↔ ∃ z, bt set z = true ∧ (fe_E n kd th el) i z) → post r) : wpX_predecessorsOf post ((nI n), (nI k), me, ob, ot, oe, it, lr, lb, la, sz, kd, ev, th, el, op, rs, fi, se, dm, fr, lv, bg, en, va) set := by
  have hn := ok.1
  have L : ∀ m j f, j ≤ n → n - j < m → sl_in (fun _ => False) (fun x i => i = x ∧ ∃ z, bt set z = true ∧ (fe_E n kd th el) x z) j f → wX_predecessorsOf_4 post set (nI n) (nI k) me ob ot oe it lr lb la sz kd ev th el op rs fi se dm fr lv bg en va m f (nI j) := by
    intro m
    induction m with
    | zero => intro j f _ h; omega
    | succ m ih =>
      intro j f hj hm hi
      by_cases e : j = n
      · subst e
        refine br_t (Int32.le_refl _) (hp f (fun i => ?_))
        rw [sl_e hi (fun x i ⟨_, z, _, g⟩ => g.1)]
        exact ⟨fun z => z.elim False.elim (fun ⟨x, g1, g2⟩ => by rw [g1]; exact g2), fun z => Or.inr ⟨i, rfl, z⟩⟩
      · refine br_f (nI_ge (by omega) (by omega)) (xs_suc ok (fun r hr => ?_))
        have hr2 : ∀ z, bt r z = true ↔ (fe_E n kd th el) j z := by
          intro z
          rw [hr z]
          refine ⟨fun ⟨x, h1, h2⟩ => ?_, fun h => ⟨j, (sl_sg (by omega) j).mpr rfl, h⟩⟩
          rw [(sl_sg (by omega) x).mp h1] at h2
          exact h2
        by_cases q : ∃ z, bt r z = true ∧ bt set z = true
        · refine br_f (fun z => (sl_me r set).mp z q) ?_
          intro y ey
          refine nm_r (nI_1 j) (ih (j + 1) y (by omega) (by omega) (sl_1 hi (fun i => ?_)))
          rw [ey, sl_or, sl_sg (by omega)]
          refine or_congr Iff.rfl ⟨fun g => ⟨g, ?_⟩, fun g => g.1⟩
          obtain ⟨z, z1, z2⟩ := q
          exact ⟨z, z2, (hr2 z).mp z1⟩
        · refine br_t ((sl_me r set).mpr q) (nm_r (nI_1 j) (ih (j + 1) f (by omega) (by omega) (sl_n hi (fun i g => ?_))))
          obtain ⟨_, z, z1, z2⟩ := g
          exact q ⟨z, (hr2 z).mpr z2, z1⟩
  exact ⟨n + 1, L (n + 1) 0 0 (by omega) (by omega) (sl_00 (fun _ z => z))⟩
theorem xs_lof (ok : fe_ok n kd th el) (hd : xs_dom n kd th el me dm fr) {post : Int32 → Prop} {h : Nat} (hh : h < 16) (hp : ∀ r, (∀ i, bt r i = true ↔ fd_L (fe_E n kd th el) (fe_st n) h i) → post r) : wpX_loopOf post ((nI n), (nI k), me, ob, ot, oe, it, lr, lb, la, sz, kd, ev, th, el, op, rs, fi, se, dm, fr, lv, bg, en, va) (nI h) := by
  have hn := ok.1
  have c : (nI h).toNatClampNeg = h := nI_clamp (by omega)
  intro hb ehb
  have hbb : ∀ i, bt hb i = true ↔ i = h := by intro i; rw [ehb]; exact sl_sg (by omega) i
  refine xs_pre ok (fun r hr => ⟨vp_in_nI hh (by omega), ?_⟩)
  intro cl ecl
  have hcl : ∀ i, bt cl i = true ↔ fd_T (fe_E n kd th el) (fe_st n) h i := by
    intro i
    rw [ecl, c, sl_an, hr i, hd.2.1 h hh i]
    refine and_congr ⟨fun ⟨z, z1, z2⟩ => ?_, fun z => ⟨h, (hbb h).mpr rfl, z⟩⟩ Iff.rfl
    rw [(hbb z).mp z1] at z2
    exact z2
  have hE : ∀ z x, ((fe_E n kd th el) x z ∧ fd_M (fe_E n kd th el) (fe_st n) x) → x < 16 := fun z x q => by
    have := fe_Mn ok q.2
    omega
  have L : ∀ m j s, j ≤ 16 → 16 - j < m → (∃ x, fd_T (fe_E n kd th el) (fe_st n) h x) → fr_so (fun z x => (fe_E n kd th el) x z ∧ fd_M (fe_E n kd th el) (fe_st n) x) (fd_T (fe_E n kd th el) (fe_st n) h) (fun x => x = h) s → fr_sr (fd_T (fe_E n kd th el) (fe_st n) h) (fun x => x = h) s →
      (fr_cl (fun z x => (fe_E n kd th el) x z ∧ fd_M (fe_E n kd th el) (fe_st n) x) (fun x => x = h) s ∨ j ≤ fa_cn (bt s) 16) → wX_loopOf_33 post hb (nI n) (nI k) me ob ot oe it lr lb la sz kd ev th el op rs fi se dm fr lv bg en va m s (nI j) := by
    intro m
    induction m with
    | zero => intro j f _ h; omega
    | succ m ih =>
      intro j s hj hm h0 h1 h2 h3
      by_cases e : j = 16
      · subst e
        refine br_t (by decide) (hp _ (fun i => ?_))
        rw [sl_or, hbb i, fr_fi h1 h2 (fr_end hE h3) i]
        exact ⟨fun z => ⟨h0, z.elim Or.inr Or.inl⟩, fun z => z.2.elim Or.inr Or.inl⟩
      · refine br_f (nI_ge (b := 16) (by omega) (by decide)) (xs_pre ok (fun r hr => ?_))
        intro y ey
        have hr2 : fr_rd (fun z x => (fe_E n kd th el) x z ∧ fd_M (fe_E n kd th el) (fe_st n) x) (fun x => x = h) s y := by
          intro i
          rw [ey, sl_or, sl_df, sl_an, hr i, hd.1 i, hbb i]
          exact or_congr Iff.rfl (and_congr ⟨fun ⟨⟨z, z1, z2⟩, z3⟩ => ⟨z, z1, z2, z3⟩, fun ⟨z, z1, z2, z3⟩ => ⟨⟨z, z1, z2⟩, z3⟩⟩ Iff.rfl)
        exact nm_r (nI_1 j) (ih (j + 1) y (by omega) (by omega) h0 (fr_so1 hr2 h1) (fr_sr1 hr2 h2) (fr_rdk hE hr2 h3))
  by_cases q : ∃ i, bt cl i = true
  · refine br_f (fun z => (sl_z cl).mp z q) ?_
    intro y ey
    have hy : ∀ i, bt y i = true ↔ (fd_T (fe_E n kd th el) (fe_st n) h i ∧ ¬ i = h) := by
      intro i
      rw [ey, sl_df, hcl i, hbb i]
    refine ⟨17, L 17 0 y (by omega) (by omega) ?_ ?_ ?_ (Or.inr (Nat.zero_le _))⟩
    · obtain ⟨i, hi⟩ := q
      exact ⟨i, (hcl i).mp hi⟩
    · intro i hi
      have := (hy i).mp hi
      exact fr_b this.1 this.2
    · intro x hx na
      exact (hy x).mpr ⟨hx, na⟩
  · refine br_t ((sl_z cl).mpr q) (hp 0 (fun i => ⟨fun z => absurd z (sl_no i), fun z => ?_⟩))
    obtain ⟨⟨x, hx⟩, _⟩ := z
    exact absurd ⟨x, (hcl x).mpr hx⟩ q
theorem xs_dep (ok : fe_ok n kd th el) {post : Int32 → SX → Prop} {v1 : Int32} (h0 : (∀ j, j < n → ¬ v1 = nI j) → post (-1) ((nI n), (nI k), me, ob, ot, oe, it, lr, lb, la, sz, kd, ev, th, el, op, rs, fi, se, dm, fr, lv, bg, en, va))
    (h1 : ∀ b, b < n → v1 = nI b → ∀ me' dm' fr', post (nI (fa_cn (fa_pc (fun h => fd_L (fe_E n kd th el) (fe_st n) h b)) 16)) ((nI n), (nI k), me', ob, ot, oe, it, lr, lb, la, sz, kd, ev, th, el, op, rs, fi, se, dm', fr', lv, bg, en, va)) : wpX_depth post ((nI n), (nI k), me, ob, ot, oe, it, lr, lb, la, sz, kd, ev, th, el, op, rs, fi, se, dm, fr, lv, bg, en, va) v1 := by
  unfold wpX_depth
  have hn := ok.1
  refine xs_isB hn (fun z => br_t rfl (h0 z)) (fun b hlb eb => br_f (by decide) ?_)
  refine xs_sol ok (fun me' dm' fr' hd => ?_)
  subst eb
  have L : ∀ m j, j ≤ 16 → 16 - j < m → wX_depth_18 post (nI b) (nI n) (nI k) me' ob ot oe it lr lb la sz kd ev th el op rs fi se dm' fr' lv bg en va m (nI (fa_cn (fa_pc (fun h => fd_L (fe_E n kd th el) (fe_st n) h b)) j)) (nI j) := by
    intro m
    induction m with
    | zero => intro j _ h; omega
    | succ m ih =>
      intro j hj hm
      by_cases e : j = 16
      · subst e
        exact br_t (by decide) (h1 b hlb rfl me' dm' fr')
      · refine br_f (nI_ge (b := 16) (by omega) (by decide)) (xs_lof ok hd (by omega) (fun r hr => xs_has (by omega) (fun z => br_t rfl (nm_r (nI_1 j) ?_)) (fun z => br_f (by decide) ?_)))
        · have := ih (j + 1) (by omega) (by omega)
          rw [fa_cn0 (p := fa_pc (fun h => fd_L (fe_E n kd th el) (fe_st n) h b)) (m := j) (fun q => z ((hr b).mpr (fa_pt.mp q)))] at this
          exact this
        · have := ih (j + 1) (by omega) (by omega)
          rw [fa_cn1 (p := fa_pc (fun h => fd_L (fe_E n kd th el) (fe_st n) h b)) (m := j) (fa_pt.mpr ((hr b).mp z))] at this
          exact nm_r (nI_1 _) (nm_r (nI_1 j) this)
  exact ⟨17, L 17 0 (by omega) (by omega)⟩
end
