/-- the variables as a run begins -/
def fv_s0 (k : Nat) (a b c : Int32) (v : Nat) : Int32 := if k ≤ v then 0 else if v = 0 then a else if v = 1 then b else c
theorem fv_nxl {n : Nat} {kd ev th el : Nat → Int32} (ok : fe_ok n kd th el) {x : Nat} (hx : x < n) (k0 : ¬ kd x = 0) (vs : Nat → Int32) : fv_nx kd ev th el x vs < n := by
  unfold fv_nx
  split
  · next h => exact (fz_tgo ok).2 x hx |>.2 h.1
  · exact (fz_tgo ok).2 x hx |>.1 k0
section
variable {n k : Nat} {me ob ot oe it lr lb la : Int32} {sz kd ev th el op rs fi se dm fr lv va : Nat → Int32} {bg en : Nat → Int64}
theorem xr_rv {post : Int32 → Prop} {q : Nat} {vs : Nat → Int32} {kk A C : Int32} (hq : q < 64) (h : fe_i1 op rs fi se q) (h7 : ¬ op q = 7) (hw : ∀ v, v < 6 → va v = vs v) (hp : post (fv_v (op q) (fi q) (se q) vs kk A C)) : wpX_ranValue post ((nI n), (nI k), me, ob, ot, oe, it, lr, lb, la, sz, kd, ev, th, el, op, rs, fi, se, dm, fr, lv, bg, en, va) (nI q) := by
  obtain ⟨⟨o, ho, eo, ha, hc⟩, _⟩ := h
  have c : (nI q).toNatClampNeg = q := nI_clamp (by omega)
  have vi : vp_in (nI q) 64 := vp_in_nI hq (by omega)
  unfold fv_v at hp
  rw [if_neg h7, eo] at hp
  rw [eo] at h7
  have o7 : ¬ o = 7 := fun z => h7 (by rw [z]; rfl)
  refine ⟨vi, ?_⟩
  intro y ey
  rw [c, eo] at ey
  subst ey
  by_cases o0 : o = 0
  · subst o0
    rw [if_pos (by decide)] at hp
    refine br_t (by decide) ⟨vi, ?_⟩
    rw [c]
    exact hp
  have n0 : ¬ nI o = 0 := fun z => o0 ((nI_eq (b := 0) (by omega) (by decide)).mp z)
  rw [if_neg n0] at hp
  obtain ⟨wa, hwa, ea⟩ := ha (by omega) (by omega)
  have ca : (nI wa).toNatClampNeg = wa := nI_clamp (by omega)
  rw [ea, ca] at hp
  refine br_f n0 ⟨vi, by rw [c, ea]; exact vp_in_nI (by omega) (by omega), ?_⟩
  intro x ex
  rw [c, ea, ca, hw wa hwa] at ex
  subst ex
  by_cases o1 : o = 1
  · subst o1
    rw [if_pos (by decide)] at hp
    exact br_t (by decide) hp
  have n1 : ¬ nI o = 1 := fun z => o1 ((nI_eq (b := 1) (by omega) (by decide)).mp z)
  rw [if_neg n1] at hp
  obtain ⟨wb, hwb, eb⟩ := hc (by omega) (by omega)
  have cb : (nI wb).toNatClampNeg = wb := nI_clamp (by omega)
  rw [eb, cb] at hp
  refine br_f n1 ⟨vi, by rw [c, eb]; exact vp_in_nI (by omega) (by omega), ?_⟩
  intro y ey
  rw [c, eb, cb, hw wb hwb] at ey
  subst ey
  exact xv_wo (by omega) (by omega) hp
theorem xr_ri (hn : n ≤ 16) (is : fe_is n sz op rs fi se) {post : SX → Prop} {x : Nat} {s : (Nat → Int32) × Int32} {A C : Int32} (hx : x < n) (hw : ∀ v, v < 6 → va v = s.1 v) (ht : it = s.2)
    (hp : ∀ va' it', (∀ v, v < 6 → va' v = (fv_bl sz op rs fi se A C x s).1 v) → it' = (fv_bl sz op rs fi se A C x s).2 → post ((nI n), (nI k), me, ob, ot, oe, it', lr, lb, la, sz, kd, ev, th, el, op, rs, fi, se, dm, fr, lv, bg, en, va')) : wpX_runInstructions post ((nI n), (nI k), me, ob, ot, oe, it, lr, lb, la, sz, kd, ev, th, el, op, rs, fi, se, dm, fr, lv, bg, en, va) (nI x) A C := by
  obtain ⟨l, hl, es, cs, hin⟩ := fe_ix is hx
  have c : (nI x).toNatClampNeg = x := nI_clamp (by omega)
  have vi : vp_in (nI x) 16 := vp_in_nI (by omega) (by omega)
  unfold fv_bl at hp
  rw [cs] at hp
  have L : ∀ m i va' it', i ≤ l → l - i < m → (∀ v, v < 6 → va' v = (fv_th op rs fi se A C (4 * x) s i).1 v) → it' = (fv_th op rs fi se A C (4 * x) s i).2 →
      wX_runInstructions_3 post (nI x) A C (nI n) (nI k) me ob ot oe lr lb la m (nI i) it' sz kd ev th el op rs fi se dm fr lv bg en va' := by
    intro m
    induction m with
    | zero => intro i va' it' _ h; omega
    | succ m ih =>
      intro i va' it' hi hm h1 h2
      by_cases e : i = l
      · subst e
        exact ⟨vi, br_t (by rw [c, es]; exact Int32.le_refl _) (hp va' it' h1 h2)⟩
      · obtain ⟨hcl, v, hv, ev2⟩ := hin i (by omega)
        clear hcl
        have c4 : (nI (4 * x + i)).toNatClampNeg = 4 * x + i := nI_clamp (by omega)
        have v4 : vp_in (nI (4 * x + i)) 64 := vp_in_nI (by omega) (by omega)
        have e1 : (fv_th op rs fi se A C (4 * x) s (i + 1)).1 = upd (fv_th op rs fi se A C (4 * x) s i).1 v (fv_v (op (4 * x + i)) (fi (4 * x + i)) (se (4 * x + i)) (fv_th op rs fi se A C (4 * x) s i).1 (fv_th op rs fi se A C (4 * x) s i).2 A C) := by
          show upd _ (rs (4 * x + i)).toNatClampNeg _ = _
          rw [ev2, nI_clamp (by omega)]
        have e2 : (fv_th op rs fi se A C (4 * x) s (i + 1)).2 = if op (4 * x + i) = 7 then (fv_th op rs fi se A C (4 * x) s i).2 + 1 else (fv_th op rs fi se A C (4 * x) s i).2 := rfl
        have nx : ∀ w it2, w = fv_v (op (4 * x + i)) (fi (4 * x + i)) (se (4 * x + i)) (fv_th op rs fi se A C (4 * x) s i).1 (fv_th op rs fi se A C (4 * x) s i).2 A C → it2 = (fv_th op rs fi se A C (4 * x) s (i + 1)).2 → ∀ y, y = upd va' v w →
            wX_runInstructions_3 post (nI x) A C (nI n) (nI k) me ob ot oe lr lb la m (nI (i + 1)) it2 sz kd ev th el op rs fi se dm fr lv bg en y := by
          intro w it2 hw2 hi2 y ey
          subst ey
          refine ih (i + 1) _ it2 (by omega) (by omega) (fun u hu => ?_) hi2
          rw [e1]
          by_cases eu : u = v
          · rw [eu, pk_us, pk_us]; exact hw2
          · rw [pk_un eu, pk_un eu]; exact h1 u hu
        refine ⟨vi, br_f (by rw [c, es]; exact nI_ge (by omega) (by omega)) ?_⟩
        intro y ey
        rw [xs_ix] at ey
        subst ey
        refine ⟨v4, ?_⟩
        intro y ey
        rw [c4, ev2] at ey
        subst ey
        have cv : (nI v).toNatClampNeg = v := nI_clamp (by omega)
        have vv : vp_in (nI v) 6 := vp_in_nI (by omega) (by omega)
        refine ⟨v4, ?_⟩
        by_cases o7 : op (4 * x + i) = 7
        · rw [if_pos o7] at e2
          refine br_t (by rw [c4]; exact o7) ⟨vv, ?_⟩
          intro y ey
          rw [cv] at ey
          refine nm_e (nm_r (nI_1 i) (nx _ _ ?_ ?_ y ey))
          · unfold fv_v
            rw [if_pos o7, h2]
          · rw [e2, h2]
        · rw [if_neg o7] at e2
          refine br_f (by rw [c4]; exact o7) (xr_rv (by omega) (hin i (by omega)) o7 h1 (kk := (fv_th op rs fi se A C (4 * x) s i).2) (A := A) (C := C) ⟨vv, ?_⟩)
          intro y ey
          rw [cv] at ey
          refine nm_r (nI_1 i) (nx _ _ rfl ?_ y ey)
          rw [e2, h2]
  exact ⟨l + 1, L (l + 1) 0 va it (by omega) (by omega) hw ht⟩
theorem xr_ba (ok : fe_ok n kd th el) (hev : fe_ev n kd ev) {post : Int32 → Prop} {x : Nat} {vs : Nat → Int32} (hx : x < n) (k0 : ¬ kd x = 0) (hw : ∀ v, v < 6 → va v = vs v) (hp : post (nI (fv_nx kd ev th el x vs))) : wpX_blockAfter post ((nI n), (nI k), me, ob, ot, oe, it, lr, lb, la, sz, kd, ev, th, el, op, rs, fi, se, dm, fr, lv, bg, en, va) (nI x) := by
  have hn := ok.1
  have c : (nI x).toNatClampNeg = x := nI_clamp (by omega)
  have vi : vp_in (nI x) 16 := vp_in_nI (by omega) (by omega)
  unfold fv_nx at hp
  refine fe_cs ok hx (fun k => absurd k k0) (fun t k1 _ ht e1 => ?_) (fun t t' k2 _ ht e1 _ ht' e2 => ?_)
  · rw [if_neg (fun z => by rw [k1] at z; exact absurd z.1 (by decide)), e1, nI_clamp (by omega)] at hp
    refine ⟨vi, br_f (by rw [c, k1]; decide) (br_t rfl ⟨vi, ?_⟩)⟩
    rw [c, e1]
    exact hp
  · obtain ⟨v, hv, e3⟩ := hev x hx (by rw [k2]; decide)
    have cv : (nI v).toNatClampNeg = v := nI_clamp (by omega)
    rw [e3, cv, e1, e2, nI_clamp (by omega), nI_clamp (by omega)] at hp
    refine ⟨vi, br_t (by rw [c]; exact k2) ⟨vi, by rw [c, e3]; exact vp_in_nI (by omega) (by omega), ?_⟩⟩
    by_cases z : vs v = 0
    · rw [if_pos ⟨k2, z⟩] at hp
      refine br_t (by rw [c, e3, cv, hw v hv]; exact z) (br_f (by decide) ⟨vi, ?_⟩)
      rw [c, e2]
      exact hp
    · rw [if_neg (fun q => z q.2)] at hp
      refine br_f (by rw [c, e3, cv, hw v hv]; exact z) (br_t rfl ⟨vi, ?_⟩)
      rw [c, e1]
      exact hp
theorem xr_sv (hk : k ≤ 3) {post : SX → Prop} {a b c : Int32} (hp : ∀ va', (∀ v, v < 6 → va' v = fv_s0 k a b c v) → post ((nI n), (nI k), me, ob, ot, oe, it, lr, lb, la, sz, kd, ev, th, el, op, rs, fi, se, dm, fr, lv, bg, en, va')) : wpX_startVariables post ((nI n), (nI k), me, ob, ot, oe, it, lr, lb, la, sz, kd, ev, th, el, op, rs, fi, se, dm, fr, lv, bg, en, va) a b c := by
  have L : ∀ va0 : Nat → Int32, va0 0 = (if k ≤ 0 then 0 else a) → va0 1 = (if k ≤ 1 then 0 else b) → va0 2 = (if k ≤ 2 then 0 else c) →
      ∀ m v va', 3 ≤ v → v ≤ 6 → 6 - v < m → (∀ w, w < 3 → va' w = va0 w) → (∀ w, 3 ≤ w → w < v → va' w = 0) → wX_startVariables_59 post (nI n) (nI k) me ob ot oe it lr lb la m (nI v) sz kd ev th el op rs fi se dm fr lv bg en va' := by
    intro va0 g0 g1 g2 m
    induction m with
    | zero => intro v va' _ _ h; omega
    | succ m ih =>
      intro v va' hv3 hv hm h1 h2
      by_cases e : v = 6
      · subst e
        refine br_t (by decide) (hp va' (fun w hw => ?_))
        unfold fv_s0
        by_cases w3 : w < 3
        · rw [h1 w w3]
          have hw3 : w = 0 ∨ w = 1 ∨ w = 2 := by omega
          rcases hw3 with e | e | e
          · subst e
            rw [g0, if_pos rfl]
          · subst e
            exact g1
          · subst e
            exact g2
        · rw [h2 w (by omega) hw, if_pos (by omega)]
      · have cv : (nI v).toNatClampNeg = v := nI_clamp (by omega)
        refine br_f (nI_ge (b := 6) (by omega) (by decide)) ⟨vp_in_nI (by omega) (by omega), ?_⟩
        intro y ey
        rw [cv] at ey
        subst ey
        refine nm_r (nI_1 v) (ih (v + 1) _ (by omega) (by omega) (by omega) (fun w hw => ?_) (fun w hw hw2 => ?_))
        · rw [pk_un (by omega)]; exact h1 w hw
        · by_cases ew : w = v
          · rw [ew, pk_us]
          · rw [pk_un ew]; exact h2 w hw (by omega)
  have M : ∀ va0 : Nat → Int32, va0 0 = (if k ≤ 0 then 0 else a) → va0 1 = (if k ≤ 1 then 0 else b) → va0 2 = (if k ≤ 2 then 0 else c) → ∃ m, wX_startVariables_59 post (nI n) (nI k) me ob ot oe it lr lb la m 3 sz kd ev th el op rs fi se dm fr lv bg en va0 :=
    fun va0 g0 g1 g2 => ⟨4, L va0 g0 g1 g2 4 3 va0 (by omega) (by omega) (by omega) (fun _ _ => rfl) (fun w hw hw2 => by omega)⟩
  have v0 : vp_in 0 6 := vp_in_iff.mpr (by decide)
  have v1 : vp_in 1 6 := vp_in_iff.mpr (by decide)
  have c0 : (0 : Int32).toNatClampNeg = 0 := by decide
  have c1 : (1 : Int32).toNatClampNeg = 1 := by decide
  have y36 : ∀ (va0 : Nat → Int32) (w1 : Int32), va0 0 = (if k ≤ 0 then 0 else a) → w1 = (if k ≤ 1 then 0 else b) → wX_startVariables_36 post c w1 1 (nI n) (nI k) me ob ot oe it lr lb la sz kd ev th el op rs fi se dm fr lv bg en va0 := by
    intro va0 w1 g0 g1
    refine ⟨v1, ?_⟩
    intro y ey
    rw [c1] at ey
    subst ey
    by_cases q : k ≤ 2
    · refine br_t (nI_le (b := 2) q (by decide)) (nm_e (M _ ?_ ?_ ?_))
      · rw [pk_un (by decide), pk_un (by decide)]; exact g0
      · rw [pk_un (by decide), pk_us]; exact g1
      · rw [pk_us, if_pos q]
    · refine br_f (nI_ge (a := 2) (by omega) (by omega)) (nm_e (M _ ?_ ?_ ?_))
      · rw [pk_un (by decide), pk_un (by decide)]; exact g0
      · rw [pk_un (by decide), pk_us]; exact g1
      · rw [pk_us, if_neg q]
  have y17 : ∀ w0 : Int32, w0 = (if k ≤ 0 then 0 else a) → wX_startVariables_17 post b c w0 0 (nI n) (nI k) me ob ot oe it lr lb la sz kd ev th el op rs fi se dm fr lv bg en va := by
    intro w0 g0
    refine ⟨v0, ?_⟩
    intro y ey
    rw [c0] at ey
    subst ey
    by_cases q : k ≤ 1
    · exact br_t (nI_le (b := 1) q (by decide)) (y36 _ 0 (by rw [pk_us]; exact g0) (by rw [if_pos q]))
    · exact br_f (nI_ge (a := 1) (by omega) (by omega)) (y36 _ b (by rw [pk_us]; exact g0) (by rw [if_neg q]))
  by_cases q : k ≤ 0
  · exact br_t (nI_le (b := 0) q (by decide)) (y17 0 (by rw [if_pos q]))
  · exact br_f (nI_ge (a := 0) (by omega) (by omega)) (y17 a (by rw [if_neg q]))
end
section
variable {n k : Nat} {me ob ot oe it lr lb la : Int32} {sz kd ev th el op rs fi se dm fr lv va : Nat → Int32} {bg en : Nat → Int64} {A C : Int32} {R : Nat × ((Nat → Int32) × Int32) × Nat}
theorem xr_75 (ok : fe_ok n kd th el) (hev : fe_ev n kd ev) {post : Int32 → SX → Prop} {x g : Nat} {s : (Nat → Int32) × Int32} (hx : x < n) (hw : ∀ v, v < 6 → va v = s.1 v) (hR : R = (x, s, g))
    (hp : ∀ va' it', post (if kd R.1 = 0 then 0 else 1) ((nI n), (nI k), me, ob, ot, oe, it', (if kd R.1 = 0 then R.2.1.1 (ev R.1).toNatClampNeg else 0), (nI (200 - R.2.2)), (nI R.1), sz, kd, ev, th, el, op, rs, fi, se, dm, fr, lv, bg, en, va')) : wX_run_75 post (nI x) (nI (200 - g)) (nI n) (nI k) me ob ot oe it lr lb la sz kd ev th el op rs fi se dm fr lv bg en va := by
  have hn := ok.1
  have c : (nI x).toNatClampNeg = x := nI_clamp (by omega)
  have vi : vp_in (nI x) 16 := vp_in_nI (by omega) (by omega)
  subst hR
  dsimp only at hp
  by_cases k0 : kd x = 0
  · rw [if_pos k0, if_pos k0] at hp
    obtain ⟨v, hv, e3⟩ := hev x hx (by rw [k0]; decide)
    have cv : (nI v).toNatClampNeg = v := nI_clamp (by omega)
    rw [e3, cv] at hp
    refine ⟨vi, br_t (by rw [c]; exact k0) (br_f (by decide) ⟨vi, by rw [c, e3]; exact vp_in_nI (by omega) (by omega), br_f (by decide) ?_⟩)⟩
    rw [c, e3, cv, hw v hv]
    exact hp va it
  · rw [if_neg k0, if_neg k0] at hp
    exact ⟨vi, br_f (by rw [c]; exact k0) (br_t rfl (br_t rfl (hp va it)))⟩
theorem xr_run (ok : fe_ok n kd th el) (hev : fe_ev n kd ev) (is : fe_is n sz op rs fi se) (hk : k ≤ 3) {post : Int32 → SX → Prop} {a b c : Int32} (h0 : n = 0 → post (-1) ((nI n), (nI k), me, ob, ot, oe, it, lr, lb, la, sz, kd, ev, th, el, op, rs, fi, se, dm, fr, lv, bg, en, va))
    (hR : R = fv_go sz kd ev th el op rs fi se a b 199 0 (fv_bl sz op rs fi se a b 0 (fv_s0 k a b c, 0)))
    (hp : 0 < n → ∀ va' it', post (if kd R.1 = 0 then 0 else 1) ((nI n), (nI k), me, ob, ot, oe, it', (if kd R.1 = 0 then R.2.1.1 (ev R.1).toNatClampNeg else 0), (nI (200 - R.2.2)), (nI R.1), sz, kd, ev, th, el, op, rs, fi, se, dm, fr, lv, bg, en, va')) : wpX_run post ((nI n), (nI k), me, ob, ot, oe, it, lr, lb, la, sz, kd, ev, th, el, op, rs, fi, se, dm, fr, lv, bg, en, va) a b c := by
  have hn := ok.1
  have L : ∀ m g x s va' it' lr' lb' la', g ≤ 199 → g < m → x < n → (∀ v, v < 6 → va' v = s.1 v) → it' = s.2 → R = fv_go sz kd ev th el op rs fi se a b g x s →
      wX_run_35 post a b m (nI x) (nI (200 - g)) (nI n) (nI k) me ob ot oe it' lr' lb' la' sz kd ev th el op rs fi se dm fr lv bg en va' := by
    intro m
    induction m with
    | zero => intro g x s va' it' lr' lb' la' _ h; omega
    | succ m ih =>
      intro g x s va' it' lr' lb' la' hg hm hx h1 h2 h3
      have c : (nI x).toNatClampNeg = x := nI_clamp (by omega)
      have vi : vp_in (nI x) 16 := vp_in_nI (by omega) (by omega)
      by_cases k0 : kd x = 0
      · refine ⟨vi, br_t (by rw [c]; exact k0) (xr_75 ok hev (R := R) hx h1 ?_ (hp (by omega)))⟩
        rw [h3]
        cases g with
        | zero => rfl
        | succ g => exact if_pos k0
      · refine ⟨vi, br_f (by rw [c]; exact k0) ?_⟩
        cases g with
        | zero => exact br_t (by decide) (xr_75 ok hev (R := R) hx h1 h3 (hp (by omega)))
        | succ g =>
          have e3 : fv_go sz kd ev th el op rs fi se a b (g + 1) x s = fv_go sz kd ev th el op rs fi se a b g (fv_nx kd ev th el x s.1) (fv_bl sz op rs fi se a b (fv_nx kd ev th el x s.1) s) := if_neg k0
          rw [e3] at h3
          have hl := fv_nxl (ev := ev) ok hx k0 s.1
          refine br_f (nI_ge (b := 200) (by omega) (by decide)) (xr_ba ok hev hx k0 h1 ?_)
          intro y ey
          rw [nI_1] at ey
          subst ey
          refine xr_ri hn is (s := s) hl h1 h2 (fun va2 it2 g1 g2 => ?_)
          have e4 : 200 - (g + 1) + 1 = 200 - g := by omega
          rw [e4]
          exact ih g _ _ va2 it2 lr' lb' la' (by omega) (by omega) hl g1 g2 h3
  by_cases e : n = 0
  · exact br_t (by rw [e]; rfl) (h0 e)
  · refine br_f (nI_ne0 (by omega) (by omega)) ?_
    refine xr_sv hk (fun va1 hva1 => ?_)
    refine xr_ri (x := 0) hn is (s := (fv_s0 k a b c, 0)) (by omega) hva1 rfl (fun va2 it2 g1 g2 => ?_)
    exact ⟨200, L 200 199 0 _ va2 it2 lr lb la (by omega) (by omega) (by omega) g1 g2 hR⟩
end
