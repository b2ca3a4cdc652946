theorem i_up {k : Nat} {u : SX} {v : SY} (h : i_Rel k u v) : i_Rel (k + 6) u v := h
theorem i_vc0 : wpX_init (fun u => wpY_init (fun v => i_Rel 0 u v)) := by
  unfold wpX_init wpY_init
  exact i_mk (n := 0) (k := 0) fi_0
theorem i_vc_block {k : Nat} {u : SX} {v : SY} (I : i_Rel k u v) (hk : k + 6 ≤ 3072) : wpX_block (fun r u' => wpY_block (fun r' v' => r' = r ∧ i_Rel (k + 6) u' v') v) u := by
  obtain ⟨n, kk, lr, lb, la, me, ob, ot, oe, it, ym, sz, kd, ev, th, el, op, rs, fi, se, us, f1, f2, dm, fr, lv, va, yv, nd, ru, eg, yo, yw, bg, en, yg, nw, rfl, rfl, G⟩ := I
  have G2 := G
  obtain ⟨hn, hk3, ok, hev, is, rl⟩ := G2
  by_cases e : n = 16
  · subst e
    exact br_f (by decide) (br_t rfl ⟨rfl, i_mk G⟩)
  · have c : (nI n).toNatClampNeg = n := nI_clamp (by omega)
    have vi : vp_in (nI n) 16 := vp_in_nI (by omega) (by omega)
    refine br_t (nI_lt (b := 16) (by omega) (by decide)) ⟨vi, ?_⟩
    intro y ey
    rw [c] at ey
    subst ey
    refine xs_se (b := n) (w1 := 0) (w2 := 0) (w3 := 0) (by omega) (fun _ => rfl) (fun _ => rfl) (fun _ => rfl) (fun _ => rfl) (fun _ => rfl) (fun _ => rfl) ?_
    refine nm_r (nI_1 n) ?_
    refine br_f (fun z => e ((nI_eq (b := 16) (by omega) (by decide)).mp z)) ⟨vi, ?_⟩
    intro y ey
    rw [c] at ey
    subst ey
    refine ⟨vi, ?_⟩
    intro y ey
    rw [c] at ey
    subst ey
    refine ⟨vi, ?_⟩
    intro y ey
    rw [c] at ey
    subst ey
    exact nm_r (nI_1 n) ⟨rfl, i_mk (fi_b G (by omega))⟩
theorem i_vc_add {k : Nat} {u : SX} {v : SY} (I : i_Rel k u v) (hk : k + 6 ≤ 3072) (v1 : Int32) (v2 : Int32) (v3 : Int32) (v4 : Int32) (v5 : Int32) : wpX_add (fun r u' => wpY_add (fun r' v' => r' = r ∧ i_Rel (k + 6) u' v') v v1 v2 v3 v4 v5) u v1 v2 v3 v4 v5 := by
  obtain ⟨n, kk, lr, lb, la, me, ob, ot, oe, it, ym, sz, kd, ev, th, el, op, rs, fi, se, us, f1, f2, dm, fr, lv, va, yv, nd, ru, eg, yo, yw, bg, en, yg, nw, rfl, rfl, G⟩ := I
  have G2 := G
  obtain ⟨hn, hk3, ok, hev, is, rl⟩ := G2
  refine xs_add hn is (fun nb => ?_) (fun b s g es hs => ⟨fun e4 => ?_, fun e4 => ?_⟩)
  · exact ys_add hn is (fun _ => ⟨rfl, i_mk G⟩) (fun b s g _ _ => absurd ⟨b, g⟩ nb)
  · refine ys_add hn is (fun nb => absurd ⟨b, g⟩ nb) (fun b' s' g' es' hs' => ⟨fun _ => ⟨rfl, i_mk G⟩, fun l4 => ?_⟩)
    have eb : b' = b := (nI_eq (by have := g'.1; omega) (by have := g.1; omega)).mp (g'.2.1.symm.trans g.2.1)
    subst eb
    have := (nI_eq (by omega) (by omega)).mp (es.symm.trans es')
    omega
  · refine ys_add hn is (fun nb => absurd ⟨b, g⟩ nb) (fun b' s' g' es' hs' => ⟨fun l4 => ?_, fun l4 => ?_⟩)
    · have eb : b' = b := (nI_eq (by have := g'.1; omega) (by have := g.1; omega)).mp (g'.2.1.symm.trans g.2.1)
      subst eb
      have := (nI_eq (by omega) (by omega)).mp (es.symm.trans es')
      omega
    · have eb : b' = b := (nI_eq (by have := g'.1; omega) (by have := g.1; omega)).mp (g'.2.1.symm.trans g.2.1)
      subst eb
      have e2 := (nI_eq (by omega) (by omega)).mp (es.symm.trans es')
      subst e2
      exact ⟨rfl, i_mk (fi_a G g.1 es e4 g.2.2)⟩
theorem i_vc_exit {k : Nat} {u : SX} {v : SY} (I : i_Rel k u v) (hk : k + 6 ≤ 3072) (v1 : Int32) (v2 : Int32) (v3 : Int32) (v4 : Int32) (v5 : Int32) : wpX_exit (fun r u' => wpY_exit (fun r' v' => r' = r ∧ i_Rel (k + 6) u' v') v v1 v2 v3 v4 v5) u v1 v2 v3 v4 v5 := by
  obtain ⟨n, kk, lr, lb, la, me, ob, ot, oe, it, ym, sz, kd, ev, th, el, op, rs, fi, se, us, f1, f2, dm, fr, lv, va, yv, nd, ru, eg, yo, yw, bg, en, yg, nw, rfl, rfl, G⟩ := I
  have G2 := G
  obtain ⟨hn, hk3, ok, hev, is, rl⟩ := G2
  refine xs_ext hn (fun nb => ?_) (fun b w1 w2 w3 g h1 h2 h3 => ?_)
  · exact ys_ext hn (fun _ => ⟨rfl, i_mk G⟩) (fun b u1 g _ _ => absurd ⟨b, g⟩ nb)
  · refine ys_ext hn (fun nb => absurd ⟨b, g⟩ nb) (fun b' u1 g' h4 h5 => ?_)
    have eb : b' = b := (nI_eq (by have := g'.1; omega) (by have := g.1; omega)).mp (g'.2.1.symm.trans g.2.1)
    subst eb
    refine ⟨rfl, i_mk (fi_x G g.1 g.2.2.1 (fun z => ⟨h2 z, g.2.2.2.2.1 z⟩) (fun z => ⟨h3 z, g.2.2.2.2.2 z⟩) (fun z => ⟨(h4 z).trans (h1 z).symm, ?_⟩) h5)⟩
    rw [h1 z]
    exact g.2.2.2.1 z
theorem i_vc_parameters {k : Nat} {u : SX} {v : SY} (I : i_Rel k u v) (hk : k + 6 ≤ 3072) (v1 : Int32) : wpX_parameters (fun r u' => wpY_parameters (fun r' v' => r' = r ∧ i_Rel (k + 6) u' v') v v1) u v1 := by
  obtain ⟨n, kk, lr, lb, la, me, ob, ot, oe, it, ym, sz, kd, ev, th, el, op, rs, fi, se, us, f1, f2, dm, fr, lv, va, yv, nd, ru, eg, yo, yw, bg, en, yg, nw, rfl, rfl, G⟩ := I
  have G2 := G
  obtain ⟨hn, hk3, ok, hev, is, rl⟩ := G2
  rcases pk_ix v1 (n := 4) (by decide) with h | h | ⟨j, hj, e⟩
  · refine br_t h ?_
    show wpY_parameters _ _ _
    unfold wpY_parameters
    refine ys_out 4 (by decide) (fun _ => br_f (by decide) ⟨rfl, i_mk G⟩) (fun j hj e => ?_)
    rw [e] at h
    exact absurd h (nI_pos (by omega))
  · refine br_f (fun z => nI_pos (n := 4) (by decide) (Int32.lt_of_le_of_lt h z)) (br_f (fun z => absurd (Int32.le_trans h z) (by decide)) ?_)
    show wpY_parameters _ _ _
    unfold wpY_parameters
    refine ys_out 4 (by decide) (fun _ => br_f (by decide) ⟨rfl, i_mk G⟩) (fun j hj e => ?_)
    rw [e] at h
    exact absurd h (nI_ge hj (by decide))
  · subst e
    refine br_f (nI_pos (by omega)) (br_t (nI_le (b := 3) (by omega) (by decide)) ?_)
    show wpY_parameters _ _ _
    unfold wpY_parameters
    exact ys_out 4 (by decide) (fun z => absurd rfl (z j hj)) (fun _ _ _ => br_t rfl ⟨rfl, i_mk (fi_k G (by omega))⟩)
theorem i_vc_clear {k : Nat} {u : SX} {v : SY} (I : i_Rel k u v) (hk : k + 6 ≤ 3072) : wpX_clear (fun r u' => wpY_clear (fun r' v' => r' = r ∧ i_Rel (k + 6) u' v') v) u := by
  obtain ⟨n, kk, lr, lb, la, me, ob, ot, oe, it, ym, sz, kd, ev, th, el, op, rs, fi, se, us, f1, f2, dm, fr, lv, va, yv, nd, ru, eg, yo, yw, bg, en, yg, nw, rfl, rfl, G⟩ := I
  have G2 := G
  obtain ⟨hn, hk3, ok, hev, is, rl⟩ := G2
  exact ⟨rfl, i_mk (n := 0) (k := 0) fi_0⟩
theorem i_vc_parent {k : Nat} {u : SX} {v : SY} (I : i_Rel k u v) (hk : k + 6 ≤ 3072) (v1 : Int32) : wpX_parent (fun r u' => wpY_parent (fun r' v' => r' = r ∧ i_Rel (k + 6) u' v') v v1) u v1 := by
  obtain ⟨n, kk, lr, lb, la, me, ob, ot, oe, it, ym, sz, kd, ev, th, el, op, rs, fi, se, us, f1, f2, dm, fr, lv, va, yv, nd, ru, eg, yo, yw, bg, en, yg, nw, rfl, rfl, G⟩ := I
  have G2 := G
  obtain ⟨hn, hk3, ok, hev, is, rl⟩ := G2
  refine xs_par ok (fun z => ?_) (fun b hb eb r me' dm' fr' hr => ?_)
  · exact ys_parO ok rl z (fun ym' ru' => ⟨rfl, i_mk G⟩)
  · subst eb
    exact ys_par ok rl hb hr (fun ym' ru' => ⟨rfl, i_mk G⟩)
theorem i_vc_dominates {k : Nat} {u : SX} {v : SY} (I : i_Rel k u v) (hk : k + 6 ≤ 3072) (v1 : Int32) (v2 : Int32) : wpX_dominates (fun r u' => wpY_dominates (fun r' v' => r' = r ∧ i_Rel (k + 6) u' v') v v1 v2) u v1 v2 := by
  obtain ⟨n, kk, lr, lb, la, me, ob, ot, oe, it, ym, sz, kd, ev, th, el, op, rs, fi, se, us, f1, f2, dm, fr, lv, va, yv, nd, ru, eg, yo, yw, bg, en, yg, nw, rfl, rfl, G⟩ := I
  have G2 := G
  obtain ⟨hn, hk3, ok, hev, is, rl⟩ := G2
  refine xs_dms ok (fun me' dm' fr' z => ?_) (fun me' dm' fr' z => ?_)
  · exact ys_dms ok rl (fun ym' ru' _ => ⟨rfl, i_mk G⟩) (fun ym' ru' w => absurd w z)
  · exact ys_dms ok rl (fun ym' ru' w => absurd z w) (fun ym' ru' _ => ⟨rfl, i_mk G⟩)
theorem i_vc_frontier {k : Nat} {u : SX} {v : SY} (I : i_Rel k u v) (hk : k + 6 ≤ 3072) (v1 : Int32) : wpX_frontier (fun r u' => wpY_frontier (fun r' v' => r' = r ∧ i_Rel (k + 6) u' v') v v1) u v1 := by
  obtain ⟨n, kk, lr, lb, la, me, ob, ot, oe, it, ym, sz, kd, ev, th, el, op, rs, fi, se, us, f1, f2, dm, fr, lv, va, yv, nd, ru, eg, yo, yw, bg, en, yg, nw, rfl, rfl, G⟩ := I
  have G2 := G
  obtain ⟨hn, hk3, ok, hev, is, rl⟩ := G2
  refine xs_frt ok (fun r me' dm' fr' hr => ?_)
  exact ys_frt ok rl (fun r' ym' ru' hr' => ⟨fa_ext (fun i => (hr' i).trans (hr i).symm), i_mk G⟩)
theorem i_vc_merges {k : Nat} {u : SX} {v : SY} (I : i_Rel k u v) (hk : k + 6 ≤ 3072) (v1 : Int32) : wpX_merges (fun r u' => wpY_merges (fun r' v' => r' = r ∧ i_Rel (k + 6) u' v') v v1) u v1 := by
  obtain ⟨n, kk, lr, lb, la, me, ob, ot, oe, it, ym, sz, kd, ev, th, el, op, rs, fi, se, us, f1, f2, dm, fr, lv, va, yv, nd, ru, eg, yo, yw, bg, en, yg, nw, rfl, rfl, G⟩ := I
  have G2 := G
  obtain ⟨hn, hk3, ok, hev, is, rl⟩ := G2
  refine xs_mer ok is (fun r me' dm' fr' hr => ?_)
  exact ys_mer ok rl is (fun r' ym' ru' eg' hr' => ⟨fa_ext (fun i => (hr' i).trans (hr i).symm), i_mk G⟩)
theorem i_vc_depth {k : Nat} {u : SX} {v : SY} (I : i_Rel k u v) (hk : k + 6 ≤ 3072) (v1 : Int32) : wpX_depth (fun r u' => wpY_depth (fun r' v' => r' = r ∧ i_Rel (k + 6) u' v') v v1) u v1 := by
  obtain ⟨n, kk, lr, lb, la, me, ob, ot, oe, it, ym, sz, kd, ev, th, el, op, rs, fi, se, us, f1, f2, dm, fr, lv, va, yv, nd, ru, eg, yo, yw, bg, en, yg, nw, rfl, rfl, G⟩ := I
  have G2 := G
  obtain ⟨hn, hk3, ok, hev, is, rl⟩ := G2
  refine xs_dep ok (fun z => ?_) (fun b hb eb me' dm' fr' => ?_)
  · exact ys_dep ok rl (fun _ => ⟨rfl, i_mk G⟩) (fun b hb eb => absurd eb (z b hb))
  · refine ys_dep ok rl (fun z => absurd eb (z b hb)) (fun b' hb' eb' ym' ru' => ⟨?_, i_mk G⟩)
    have e : b' = b := (nI_eq (by omega) (by omega)).mp (eb'.symm.trans eb)
    subst e
    rw [fa_cn16 hn (fun h hh => ?_)]
    obtain ⟨⟨x, hx⟩, _⟩ := fa_pt.mp hh
    exact fe_Mn ok hx.2.1
theorem i_vc_lives {k : Nat} {u : SX} {v : SY} (I : i_Rel k u v) (hk : k + 6 ≤ 3072) (v1 : Int32) : wpX_lives (fun r u' => wpY_lives (fun r' v' => r' = r ∧ i_Rel (k + 6) u' v') v v1) u v1 := by
  obtain ⟨n, kk, lr, lb, la, me, ob, ot, oe, it, ym, sz, kd, ev, th, el, op, rs, fi, se, us, f1, f2, dm, fr, lv, va, yv, nd, ru, eg, yo, yw, bg, en, yg, nw, rfl, rfl, G⟩ := I
  have G2 := G
  obtain ⟨hn, hk3, ok, hev, is, rl⟩ := G2
  refine xs_lvs ok hev is (fun z => ?_) (fun b hb eb lv' hl => ?_)
  · exact ys_lvs ok hev rl is (fun _ => ⟨rfl, i_mk G⟩) (fun b hb eb => absurd eb (z b hb))
  · refine ys_lvs ok hev rl is (fun z => absurd eb (z b hb)) (fun b' hb' eb' yv' hl' => ⟨?_, i_mk G⟩)
    have e : b' = b := (nI_eq (by omega) (by omega)).mp (eb'.symm.trans eb)
    subst e
    exact fl_uq hl' hl b' hb'
theorem i_vc_needed {k : Nat} {u : SX} {v : SY} (I : i_Rel k u v) (hk : k + 6 ≤ 3072) (v1 : Int32) : wpX_needed (fun r u' => wpY_needed (fun r' v' => r' = r ∧ i_Rel (k + 6) u' v') v v1) u v1 := by
  obtain ⟨n, kk, lr, lb, la, me, ob, ot, oe, it, ym, sz, kd, ev, th, el, op, rs, fi, se, us, f1, f2, dm, fr, lv, va, yv, nd, ru, eg, yo, yw, bg, en, yg, nw, rfl, rfl, G⟩ := I
  have G2 := G
  obtain ⟨hn, hk3, ok, hev, is, rl⟩ := G2
  refine xs_ndd ok hev is (fun z => ?_) (fun b hb eb mb r lv' hl hr => ?_)
  · refine ys_ndd ok hev rl is (fun ym' ru' nd' yv' _ => ⟨rfl, i_mk G⟩) (fun b hb eb r ym' ru' nd' yv' hf => ⟨?_, i_mk G⟩)
    obtain ⟨N, LY, hI, hY, hS, er⟩ := hf
    rw [er]
    apply fa_ext
    intro i
    exact ⟨fun w => absurd (hI.2.1 b hb i w).2 (z b hb eb), fun w => absurd w (sl_no i)⟩
  · refine ys_ndd ok hev rl is (fun ym' ru' nd' yv' z => absurd eb (z b hb)) (fun b' hb' eb' r' ym' ru' nd' yv' hf => ⟨?_, i_mk G⟩)
    have e : b' = b := (nI_eq (by omega) (by omega)).mp (eb'.symm.trans eb)
    subst e
    obtain ⟨N, LY, hI, hY, hS, er⟩ := hf
    rw [er]
    apply fa_ext
    intro i
    rw [hr i]
    have hd : ∀ b, b < n → ∀ i, i < (sz b).toNatClampNeg → ∀ j, bt (fe_m rs b i) j = true ↔ j = fe_d rs b i := by
      intro b hb i hi
      obtain ⟨s, hs, es, cs, hin⟩ := fe_ix is hb
      rw [cs] at hi
      obtain ⟨_, v, hv, ev2⟩ := hin i hi
      exact fe_mb ev2 hv
    constructor
    · intro w
      have hi := (hI.2.1 b' hb' i w).1
      exact ⟨hi, (fn_I2 (fe_x1 ok hev) hd hI hY hS hl hb' mb hi).mp w⟩
    · intro w
      exact (fn_I2 (fe_x1 ok hev) hd hI hY hS hl hb' mb w.1).mpr w.2
theorem i_vc_value {k : Nat} {u : SX} {v : SY} (I : i_Rel k u v) (hk : k + 6 ≤ 3072) (v1 : Int32) (v2 : Int32) (v3 : Int32) : wpX_value (fun r u' => wpY_value (fun r' v' => r' = r ∧ i_Rel (k + 6) u' v') v v1 v2 (lw_bz v3)) u v1 v2 (lw_bz v3) := by
  obtain ⟨n, kk, lr, lb, la, me, ob, ot, oe, it, ym, sz, kd, ev, th, el, op, rs, fi, se, us, f1, f2, dm, fr, lv, va, yv, nd, ru, eg, yo, yw, bg, en, yg, nw, rfl, rfl, G⟩ := I
  have G2 := G
  obtain ⟨hn, hk3, ok, hev, is, rl⟩ := G2
  refine xv_val ok hev is hk3 (fun z => ?_) (fun b w hb hw eb ew p bg' en' ob' ot' oe' hso => ?_)
  · exact yv_val ok hev rl is hk3 (fun _ => ⟨rfl, i_mk G⟩) (fun b w hb hw eb ew => absurd ⟨b, w, hb, hw, eb, ew⟩ z)
  · refine yv_val ok hev rl is hk3 (fun z => absurd ⟨b, w, hb, hw, eb, ew⟩ z) (fun b' w' hb' hw' eb' ew' p' yg' nw' yo' hso' => ⟨?_, i_mk G⟩)
    have e : b' = b := (nI_eq (by omega) (by omega)).mp (eb'.symm.trans eb)
    have e2 : w' = w := (nI_eq (by omega) (by omega)).mp (ew'.symm.trans ew)
    have e3 := fz_so_u hso hso'
    rw [e, e2, e3]
theorem i_vc_count {k : Nat} {u : SX} {v : SY} (I : i_Rel k u v) (hk : k + 6 ≤ 3072) (v1 : Int32) : wpX_count (fun r u' => wpY_count (fun r' v' => r' = r ∧ i_Rel (k + 6) u' v') v v1) u v1 := by
  obtain ⟨n, kk, lr, lb, la, me, ob, ot, oe, it, ym, sz, kd, ev, th, el, op, rs, fi, se, us, f1, f2, dm, fr, lv, va, yv, nd, ru, eg, yo, yw, bg, en, yg, nw, rfl, rfl, G⟩ := I
  have G2 := G
  obtain ⟨hn, hk3, ok, hev, is, rl⟩ := G2
  have yc : ∀ (w : Nat) (rr : Int32) (me ob ot oe it : Int32) (bg en : Nat → Int64), w < 4 → v1 = nI w → (∀ p, fz_so sz kd ev th el op rs fi se n (fz_p0 n kk) p → nI (fz_sm (fz_g n sz kd ev th el op rs fi se p w) n) = rr) →
      wpY_count (fun r' v' => r' = rr ∧ i_Rel (k + 6) ((nI n), (nI kk), me, ob, ot, oe, it, lr, lb, la, sz, kd, ev, th, el, op, rs, fi, se, dm, fr, lv, bg, en, va) v') ((nI n), (nI kk), ym, lr, lb, la, sz, op, rs, fi, se, kd, us, f1, f2, yv, nd, ru, eg, yg, nw, yo, yw) v1 := by
    intro w rr me ob ot oe it bg en hw ew hp
    refine yc_cnt ok hev rl is hk3 (fun z => absurd ew (z w hw)) (fun w' hw' ew' p yg' nw' yo' ym' ru' hso => ⟨?_, i_mk G⟩)
    have e : w' = w := (nI_eq (by omega) (by omega)).mp (ew'.symm.trans ew)
    rw [e]
    exact hp p hso
  refine xv_cnt ok hev is hk3 (fun z => ?_) (fun e => ?_) (fun e => ?_) (fun e p bg' en' ob' ot' oe' hso => ?_) (fun e p bg' en' ob' ot' oe' hso => ?_)
  · exact yc_cnt ok hev rl is hk3 (fun _ => ⟨rfl, i_mk G⟩) (fun w hw ew => absurd ew (z w hw))
  · exact yc 0 _ me ob ot oe it bg en (by decide) e (fun p _ => rfl)
  · exact yc 2 _ me ob ot oe it bg en (by decide) e (fun p _ => rfl)
  · refine yc 1 _ me ob' ot' oe' it bg' en' (by decide) e (fun p' hso' => ?_)
    rw [fz_so_u hso hso']
    rfl
  · refine yc 3 _ me ob' ot' oe' it bg' en' (by decide) e (fun p' hso' => ?_)
    rw [fz_so_u hso hso']
    rfl
theorem i_vc_run {k : Nat} {u : SX} {v : SY} (I : i_Rel k u v) (hk : k + 6 ≤ 3072) (v1 : Int32) (v2 : Int32) (v3 : Int32) : wpX_run (fun r u' => wpY_run (fun r' v' => r' = r ∧ i_Rel (k + 6) u' v') v v1 v2 v3) u v1 v2 v3 := by
  obtain ⟨n, kk, lr, lb, la, me, ob, ot, oe, it, ym, sz, kd, ev, th, el, op, rs, fi, se, us, f1, f2, dm, fr, lv, va, yv, nd, ru, eg, yo, yw, bg, en, yg, nw, rfl, rfl, G⟩ := I
  have G2 := G
  obtain ⟨hn, hk3, ok, hev, is, rl⟩ := G2
  obtain ⟨R, hR⟩ : ∃ R, R = fv_go sz kd ev th el op rs fi se v1 v2 199 0 (fv_bl sz op rs fi se v1 v2 0 (fv_s0 kk v1 v2 v3, 0)) := ⟨_, rfl⟩
  refine xr_run (R := R) ok hev is hk3 (fun e => ?_) hR (fun h0 va' it' => ?_)
  · exact yr_run (R := R) ok hev rl is hk3 (fun _ => ⟨rfl, i_mk G⟩) hR (fun h0 yw' => absurd e (by omega))
  · exact yr_run (R := R) ok hev rl is hk3 (fun e => absurd e (by omega)) hR (fun _ yw' => ⟨rfl, i_mk G⟩)
theorem i_vc_last {k : Nat} {u : SX} {v : SY} (I : i_Rel k u v) (hk : k + 6 ≤ 3072) (v1 : Int32) : wpX_last (fun r => wpY_last (fun r' => r' = r ∧ i_Rel (k + 6) u v) v v1) u v1 := by
  obtain ⟨n, kk, lr, lb, la, me, ob, ot, oe, it, ym, sz, kd, ev, th, el, op, rs, fi, se, us, f1, f2, dm, fr, lv, va, yv, nd, ru, eg, yo, yw, bg, en, yg, nw, rfl, rfl, G⟩ := I
  have G2 := G
  obtain ⟨hn, hk3, ok, hev, is, rl⟩ := G2
  rcases pk_ix v1 (n := 3) (by decide) with h | h | ⟨j, hj, e⟩
  · refine br_t h (br_f (fun z => ?_) (br_f (fun z => ?_) (br_f (fun z => ?_) ⟨rfl, i_mk G⟩)))
    · rw [z] at h; exact absurd h (by decide)
    · rw [z] at h; exact absurd h (by decide)
    · rw [z] at h; exact absurd h (by decide)
  · refine br_f (fun z => nI_pos (n := 3) (by decide) (Int32.lt_of_le_of_lt h z)) (br_t (Int32.lt_of_lt_of_le (by decide) h) (br_f (fun z => ?_) (br_f (fun z => ?_) (br_f (fun z => ?_) ⟨rfl, i_mk G⟩))))
    · rw [z] at h; exact absurd h (by decide)
    · rw [z] at h; exact absurd h (by decide)
    · rw [z] at h; exact absurd h (by decide)
  · have h3 : j = 0 ∨ j = 1 ∨ j = 2 := by omega
    subst e
    rcases h3 with e | e | e
    · subst e
      exact br_f (by decide) (br_f (by decide) (br_t (by decide) (br_t (by decide) ⟨rfl, i_mk G⟩)))
    · subst e
      exact br_f (by decide) (br_f (by decide) (br_f (by decide) (br_t (by decide) (br_f (by decide) (br_t (by decide) ⟨rfl, i_mk G⟩)))))
    · subst e
      exact br_f (by decide) (br_f (by decide) (br_f (by decide) (br_f (by decide) (br_t (by decide) (br_f (by decide) (br_f (by decide) (br_t (by decide) ⟨rfl, i_mk G⟩)))))))
