theorem xs_isV {post : Int32 → Prop} {x : Int32} (h0 : (∀ j, j < 6 → ¬ x = nI j) → post 0) (h1 : ∀ j, j < 6 → x = nI j → post 1) : wpX_isVariable post x := by
  rcases pk_ix x (n := 6) (by decide) with h | h | ⟨j, hj, e⟩
  · refine br_t h (h0 (fun j hj e => ?_))
    rw [e] at h
    exact nI_pos (by omega) h
  · have h2 : ¬ x < 0 := fun z => nI_pos (n := 6) (by decide) (Int32.lt_of_le_of_lt h z)
    refine br_f h2 (br_t h (h0 (fun j hj e => ?_)))
    rw [e] at h
    exact nI_ge hj (by decide) h
  · subst e
    exact br_f (nI_pos (by omega)) (br_f (nI_ge (b := 6) hj (by decide)) (h1 j hj rfl))
/-- what 'value' answers -/
def fz_va (sz op rs fi se : Nat → Int32) (p : (Nat → Int64) × (Nat → Bool)) (b v : Nat) (e : Int32) : Int64 :=
  if p.2 b = true then (if e = 0 then p.1 (6 * b + v) else fz_en sz op rs fi se p.1 b v) else fz_N
/-- what 'count' answers -/
noncomputable def fz_k0 (n : Nat) (kd th el : Nat → Int32) : Nat := fz_sm (fun x => fz_on (fa_pc (fd_M (fe_E n kd th el) (fe_st n)) x)) n
def fz_k1 (n : Nat) (p : (Nat → Int64) × (Nat → Bool)) : Nat := fz_sm (fun x => fz_on (p.2 x)) n
noncomputable def fz_k2 (n : Nat) (kd th el : Nat → Int32) : Nat := fz_sm (fun x => if fa_pc (fd_M (fe_E n kd th el) (fe_st n)) x = true then (kd x).toNatClampNeg else 0) n
def fz_wy (sz kd ev op rs fi se : Nat → Int32) (p : (Nat → Int64) × (Nat → Bool)) (x : Nat) : Nat :=
  if p.2 x = true then (if fz_lt kd x (fz_en sz op rs fi se p.1 x (ev x).toNatClampNeg) then 1 else 0) + (if fz_l2 kd x (fz_en sz op rs fi se p.1 x (ev x).toNatClampNeg) then 1 else 0) else 0
def fz_k3 (n : Nat) (sz kd ev op rs fi se : Nat → Int32) (p : (Nat → Int64) × (Nat → Bool)) : Nat := fz_sm (fz_wy sz kd ev op rs fi se p) n
section
variable {n k : Nat} {me ob ot oe it lr lb la : Int32} {sz kd ev th el op rs fi se dm fr lv va : Nat → Int32} {bg en : Nat → Int64}
theorem xv_fg {post : SX → Prop} (hp : ∀ bg' en', (∀ j, j < 96 → bg' j = fz_N) → (∀ j, j < 96 → en' j = fz_N) → post ((nI n), (nI k), me, 0, 0, 0, it, lr, lb, la, sz, kd, ev, th, el, op, rs, fi, se, dm, fr, lv, bg', en', va)) : wpX_forgetValues post ((nI n), (nI k), me, ob, ot, oe, it, lr, lb, la, sz, kd, ev, th, el, op, rs, fi, se, dm, fr, lv, bg, en, va) := by
  have L : ∀ m x bg' en', x ≤ 96 → 96 - x < m → (∀ j, j < x → bg' j = fz_N) → (∀ j, j < x → en' j = fz_N) → wX_forgetValues_2 post (nI n) (nI k) me ob ot oe it lr lb la m (nI x) sz kd ev th el op rs fi se dm fr lv bg' en' va := by
    intro m
    induction m with
    | zero => intro x bg' en' _ h; omega
    | succ m ih =>
      intro x bg' en' hx hm h1 h2
      by_cases e : x = 96
      · subst e
        exact br_t (by decide) (hp bg' en' h1 h2)
      · have c : (nI x).toNatClampNeg = x := nI_clamp (by omega)
        have vi : vp_in (nI x) 96 := vp_in_nI (by omega) (by omega)
        refine br_f (nI_ge (b := 96) (by omega) (by decide)) ⟨vi, ?_⟩
        intro y ey
        rw [c] at ey
        subst ey
        refine ⟨vi, ?_⟩
        intro y ey
        rw [c] at ey
        subst ey
        refine nm_r (nI_1 x) (ih (x + 1) _ _ (by omega) (by omega) (fun j hj => ?_) (fun j hj => ?_))
        · by_cases ej : j = x
          · rw [ej, pk_uLs]; rfl
          · rw [pk_uLn ej]; exact h1 j (by omega)
        · by_cases ej : j = x
          · rw [ej, pk_uLs]; rfl
          · rw [pk_uLn ej]; exact h2 j (by omega)
  exact ⟨97, L 97 0 bg en (by omega) (by omega) (fun j hj => absurd hj (Nat.not_lt_zero j)) (fun j hj => absurd hj (Nat.not_lt_zero j))⟩
theorem xv_sol (ok : fe_ok n kd th el) (hev : fe_ev n kd ev) (is : fe_is n sz op rs fi se) (hk : k ≤ 3) {post : SX → Prop}
    (hp : ∀ p bg' en' ob' ot' oe', xv_fi n k sz kd ev th el op rs fi se p bg' en' ob' ot' oe' → post ((nI n), (nI k), me, ob', ot', oe', it, lr, lb, la, sz, kd, ev, th, el, op, rs, fi, se, dm, fr, lv, bg', en', va)) : wpX_solveValues post ((nI n), (nI k), me, ob, ot, oe, it, lr, lb, la, sz, kd, ev, th, el, op, rs, fi, se, dm, fr, lv, bg, en, va) := by
  unfold wpX_solveValues
  have hn := ok.1
  have htg := fz_tgo ok
  have L1 : ∀ m r p bg' en' ob' ot' oe', 211 - fz_mu p < m → r ≤ fz_mu p → (∃ q, p = fz_it sz kd ev th el op rs fi se n (fz_p0 n k) q) → xv_in n sz kd ev op rs fi se p bg' en' ob' ot' oe' →
      wX_solveValues_56 post m 1 (nI r) (nI n) (nI k) me ob' ot' oe' it lr lb la sz kd ev th el op rs fi se dm fr lv bg' en' va := by
    intro m
    induction m with
    | zero => intro r p bg' en' ob' ot' oe' h; omega
    | succ m ih =>
      intro r p bg' en' ob' ot' oe' hm hr hq hi
      have hb := fz_mub p
      refine br_f (by decide) (br_f (nI_ge (b := 100000) (by omega) (by decide)) ⟨n + 1, xv_rd ok hev is hi.2.1 (fun ch p2 bg2 en2 ob2 ot2 oe2 e2 hi2 hch => ?_) (n + 1) 0 0 p bg' en' ob' ot' oe' (by omega) (by omega) rfl hi (Or.inr ⟨rfl, rfl, fun b hb => absurd hb (Nat.not_lt_zero b)⟩)⟩)
      rcases hch with ⟨w1, w2⟩ | ⟨w1, w2, w3⟩
      · subst w1
        refine ih (r + 1) p2 bg2 en2 ob2 ot2 oe2 (by omega) (by omega) ?_ hi2
        obtain ⟨q, hq⟩ := hq
        exact ⟨q + 1, by rw [e2, hq]; rfl⟩
      · subst w1
        subst w2
        cases m with
        | zero => omega
        | succ m => exact br_t rfl (hp p2 bg2 en2 ob2 ot2 oe2 ⟨⟨hq, e2.symm⟩, hi2, fun b hb2 => w3 b ((hi2.2.1 b).1 hb2).1 hb2⟩)
  refine xv_fg (fun bg0 en0 hbg hen => ?_)
  by_cases e : n = 0
  · subst e
    refine br_t rfl (hp (fz_p0 0 k) bg0 en0 0 0 0 ⟨⟨⟨0, rfl⟩, rfl⟩, ⟨⟨fun j hj => ?_, fun i => ?_⟩, fz_p0iv 0 k, fun b _ v hv hb => hen _ (by omega), fun b hb => absurd hb (sl_no b), fun b hb => absurd hb (sl_no b)⟩, fun b hb => ?_⟩)
    · unfold fz_p0
      dsimp only
      rw [if_neg (by omega)]
      exact hbg j hj
    · rw [b_0]
      unfold fz_p0
      dsimp only
      rw [decide_eq_false (by omega)]
    · unfold fz_p0 at hb
      dsimp only at hb
      rw [decide_eq_false (by omega)] at hb
      exact absurd hb (by decide)
  · have L : ∀ m v bg', v ≤ 6 → 6 - v < m → (∀ j, j < v → bg' j = if j < k then fz_V else 0) → (∀ j, j < 96 → v ≤ j → bg' j = fz_N) → wX_solveValues_19 post (nI n) (nI k) me 1 0 0 it lr lb la m (nI v) sz kd ev th el op rs fi se dm fr lv bg' en0 va := by
      intro m
      induction m with
      | zero => intro v bg' _ h; omega
      | succ m ih =>
        intro v bg' hv hm h1 h2
        by_cases e6 : v = 6
        · subst e6
          refine br_t (by decide) ⟨212, L1 212 0 (fz_p0 n k) bg' en0 1 0 0 (by omega) (Nat.zero_le _) ⟨0, rfl⟩ ⟨⟨fun j hj => ?_, fun i => ?_⟩, fz_p0iv n k, fun b _ v hv hb => hen _ (by omega), fun b hb => absurd hb (sl_no b), fun b hb => absurd hb (sl_no b)⟩⟩
          · unfold fz_p0
            dsimp only
            by_cases j6 : j < 6
            · rw [if_pos (by omega)]
              exact h1 j j6
            · rw [if_neg (by omega)]
              exact h2 j hj (by omega)
          · apply Bool.eq_iff_iff.mpr
            rw [sl_b1]
            unfold fz_p0
            dsimp only
            rw [decide_eq_true_iff]
            omega
        · have c : (nI v).toNatClampNeg = v := nI_clamp (by omega)
          have vi : vp_in (nI v) 96 := vp_in_nI (by omega) (by omega)
          have nx : ∀ w : Int64, (w = if v < k then fz_V else 0) → ∀ y, y = vp_updL bg' (nI v).toNatClampNeg w → wX_solveValues_19 post (nI n) (nI k) me 1 0 0 it lr lb la m (nI (v + 1)) sz kd ev th el op rs fi se dm fr lv y en0 va := by
            intro w hw y ey
            rw [c] at ey
            subst ey
            refine ih (v + 1) _ (by omega) (by omega) (fun j hj => ?_) (fun j hj hj2 => ?_)
            · by_cases ej : j = v
              · rw [ej, pk_uLs]; exact hw
              · rw [pk_uLn ej]; exact h1 j (by omega)
            · rw [pk_uLn (by omega)]; exact h2 j hj (by omega)
          refine br_f (nI_ge (b := 6) (by omega) (by decide)) ?_
          by_cases q : k ≤ v
          · exact br_t (nI_le q (by omega)) ⟨vi, fun y ey => nm_r (nI_1 v) (nx 0 (by rw [if_neg (by omega)]) y ey)⟩
          · exact br_f (nI_ge (by omega) (by omega)) ⟨vi, fun y ey => nm_r (nI_1 v) (nx 10000000001 (by rw [if_pos (by omega)]; rfl) y ey)⟩
    exact br_f (nI_ne0 (by omega) (by omega)) ⟨7, L 7 0 bg0 (by omega) (by omega) (fun j hj => absurd hj (Nat.not_lt_zero j)) (fun j hj _ => hbg j hj)⟩
theorem xv_val (ok : fe_ok n kd th el) (hev : fe_ev n kd ev) (is : fe_is n sz op rs fi se) (hk : k ≤ 3) {post : Int64 → SX → Prop} {v1 v2 v3 : Int32}
    (h0 : ¬ (∃ b v, b < n ∧ v < 6 ∧ v1 = nI b ∧ v2 = nI v) → post fz_N ((nI n), (nI k), me, ob, ot, oe, it, lr, lb, la, sz, kd, ev, th, el, op, rs, fi, se, dm, fr, lv, bg, en, va))
    (h1 : ∀ b v, b < n → v < 6 → v1 = nI b → v2 = nI v → ∀ p bg' en' ob' ot' oe', fz_so sz kd ev th el op rs fi se n (fz_p0 n k) p → post (fz_va sz op rs fi se p b v v3) ((nI n), (nI k), me, ob', ot', oe', it, lr, lb, la, sz, kd, ev, th, el, op, rs, fi, se, dm, fr, lv, bg', en', va)) : wpX_value post ((nI n), (nI k), me, ob, ot, oe, it, lr, lb, la, sz, kd, ev, th, el, op, rs, fi, se, dm, fr, lv, bg, en, va) v1 v2 v3 := by
  unfold wpX_value
  have hn := ok.1
  refine xs_isB hn (fun z => br_t rfl (h0 (fun ⟨b, v, hb, hv, eb, ev⟩ => z b hb eb))) (fun b hb eb => br_f (by decide) ?_)
  refine xs_isV (fun z => br_t rfl (h0 (fun ⟨b, v, hb, hv, eb, ev⟩ => z v hv ev))) (fun v hv ev1 => br_f (by decide) ?_)
  refine xv_sol ok hev is hk (fun p bg' en' ob' ot' oe' hf => ?_)
  have h1' := h1 b v hb hv eb ev1 p bg' en' ob' ot' oe' hf.1
  obtain ⟨_, ⟨ag, iv, hc, _, _⟩, hen⟩ := hf
  subst eb
  subst ev1
  have c6 : (nI (6 * b + v)).toNatClampNeg = 6 * b + v := nI_clamp (by omega)
  have v6 : vp_in (nI (6 * b + v)) 96 := vp_in_nI (by omega) (by omega)
  unfold fz_va at h1'
  intro y ey
  rw [xv_6] at ey
  subst ey
  by_cases e3 : v3 = 0
  · refine br_t e3 ⟨v6, ?_⟩
    rw [c6, ag.1 _ (by omega)]
    by_cases q : p.2 b = true
    · rw [if_pos q, if_pos e3] at h1'
      exact h1'
    · rw [if_neg q] at h1'
      rw [(iv b).2 (by cases z : p.2 b; rfl; exact absurd z q) v hv]
      exact h1'
  · refine br_f e3 ⟨v6, ?_⟩
    rw [c6]
    by_cases q : p.2 b = true
    · rw [if_pos q, if_neg e3] at h1'
      rw [(hen b q).1 v hv]
      exact h1'
    · rw [if_neg q] at h1'
      rw [hc b (by cases z : p.2 b; rfl; exact absurd z q) v hv (by omega)]
      exact h1'
theorem xv_sz {post : Int32 → Prop} {s : Int32} (hp : post (nI (fa_cn (bt s) 16))) : wpX_sizeOf post s := by
  have L : ∀ m j, j ≤ 16 → 16 - j < m → wX_sizeOf_4 post s m (nI (fa_cn (bt s) j)) (nI j) := by
    intro m
    induction m with
    | zero => intro j _ h; omega
    | succ m ih =>
      intro j hj hm
      by_cases e : j = 16
      · subst e
        exact br_t (by decide) hp
      · have := ih (j + 1) (by omega) (by omega)
        refine br_f (nI_ge (b := 16) (by omega) (by decide)) (xs_has (by omega) (fun z => br_t rfl (nm_r (nI_1 j) ?_)) (fun z => br_f (by decide) ?_))
        · rw [fa_cn0 z] at this
          exact this
        · rw [fa_cn1 z] at this
          exact nm_r (nI_1 _) (nm_r (nI_1 j) this)
  exact ⟨17, L 17 0 (by omega) (by omega)⟩
theorem xv_eg (ok : fe_ok n kd th el) {post : Int32 → Prop} {s : Int32} (hp : post (nI (fz_sm (fun x => if bt s x = true then (kd x).toNatClampNeg else 0) n))) : wpX_edgesOf post ((nI n), (nI k), me, ob, ot, oe, it, lr, lb, la, sz, kd, ev, th, el, op, rs, fi, se, dm, fr, lv, bg, en, va) s := by
  have hn := ok.1
  have L : ∀ m j, j ≤ n → n - j < m → wX_edgesOf_4 post s (nI n) (nI k) me ob ot oe it lr lb la sz kd ev th el op rs fi se dm fr lv bg en va m (nI (fz_sm (fun x => if bt s x = true then (kd x).toNatClampNeg else 0) j)) (nI j) := by
    intro m
    induction m with
    | zero => intro j _ h; omega
    | succ m ih =>
      intro j hj hm
      by_cases e : j = n
      · have e' := e.symm
        subst e'
        exact br_t (Int32.le_refl _) hp
      · have c : (nI j).toNatClampNeg = j := nI_clamp (by omega)
        have vi : vp_in (nI j) 16 := vp_in_nI (by omega) (by omega)
        have this := ih (j + 1) (by omega) (by omega)
        have e1 : fz_sm (fun x => if bt s x = true then (kd x).toNatClampNeg else 0) (j + 1) = fz_sm (fun x => if bt s x = true then (kd x).toNatClampNeg else 0) j + (if bt s j = true then (kd j).toNatClampNeg else 0) := rfl
        rw [e1] at this
        refine br_f (nI_ge (by omega) (by omega)) (xs_has (by omega) (fun z => br_t rfl (nm_r (nI_1 j) ?_)) (fun z => br_f (by decide) ⟨vi, ?_⟩))
        · rw [if_neg z] at this
          exact this
        · rw [if_pos z] at this
          refine fe_cs ok (by omega : j < n) (fun k0 => ?_) (fun t k1 _ ht e1 => ?_) (fun t t' k2 _ ht e1 _ ht' e2 => ?_)
          · rw [k0] at this
            exact br_t (by rw [c]; exact k0) (nm_r (nI_1 j) this)
          · rw [k1] at this
            exact br_f (by rw [c, k1]; decide) ⟨vi, br_f (by rw [c, k1]; decide) (nm_r (nI_1 _) (nm_r (nI_1 j) this))⟩
          · rw [k2] at this
            refine br_f (by rw [c, k2]; decide) ⟨vi, br_t (by rw [c]; exact k2) ?_⟩
            intro y ey
            have ey2 : y = nI (fz_sm (fun x => if bt s x = true then (kd x).toNatClampNeg else 0) j + 2) := ey.trans (nI_add _ 2)
            rw [ey2]
            exact nm_r (nI_1 j) this
  exact ⟨n + 1, L (n + 1) 0 (by omega) (by omega)⟩
theorem xv_cnt (ok : fe_ok n kd th el) (hev : fe_ev n kd ev) (is : fe_is n sz op rs fi se) (hk : k ≤ 3) {post : Int32 → SX → Prop} {v1 : Int32}
    (h0 : (∀ j, j < 4 → ¬ v1 = nI j) → post (-1) ((nI n), (nI k), me, ob, ot, oe, it, lr, lb, la, sz, kd, ev, th, el, op, rs, fi, se, dm, fr, lv, bg, en, va))
    (h1 : v1 = 0 → post (nI (fz_k0 n kd th el)) ((nI n), (nI k), me, ob, ot, oe, it, lr, lb, la, sz, kd, ev, th, el, op, rs, fi, se, dm, fr, lv, bg, en, va)) (h2 : v1 = 2 → post (nI (fz_k2 n kd th el)) ((nI n), (nI k), me, ob, ot, oe, it, lr, lb, la, sz, kd, ev, th, el, op, rs, fi, se, dm, fr, lv, bg, en, va))
    (h3 : v1 = 1 → ∀ p bg' en' ob' ot' oe', fz_so sz kd ev th el op rs fi se n (fz_p0 n k) p → post (nI (fz_k1 n p)) ((nI n), (nI k), me, ob', ot', oe', it, lr, lb, la, sz, kd, ev, th, el, op, rs, fi, se, dm, fr, lv, bg', en', va))
    (h4 : v1 = 3 → ∀ p bg' en' ob' ot' oe', fz_so sz kd ev th el op rs fi se n (fz_p0 n k) p → post (nI (fz_k3 n sz kd ev op rs fi se p)) ((nI n), (nI k), me, ob', ot', oe', it, lr, lb, la, sz, kd, ev, th, el, op, rs, fi, se, dm, fr, lv, bg', en', va)) : wpX_count post ((nI n), (nI k), me, ob, ot, oe, it, lr, lb, la, sz, kd, ev, th, el, op, rs, fi, se, dm, fr, lv, bg, en, va) v1 := by
  have hn := ok.1
  have pM : ∀ r : Int32, (∀ i, bt r i = true ↔ fr_R (fe_E n kd th el) (fe_st n) (fun _ => False) i) → ∀ i, bt r i = true ↔ fa_pc (fd_M (fe_E n kd th el) (fe_st n)) i = true := fun r hr i => (hr i).trans fa_pt.symm
  rcases pk_ix v1 (n := 4) (by decide) with h | h | ⟨j, hj, e⟩
  · refine br_t h (h0 (fun j hj e => ?_))
    rw [e] at h
    exact nI_pos (by omega) h
  · have g2 : ¬ v1 < 0 := fun z => nI_pos (n := 4) (by decide) (Int32.lt_of_le_of_lt h z)
    refine br_f g2 (br_f (fun z => ?_) (h0 (fun j hj e => ?_)))
    · have := Int32.le_trans h z
      exact absurd this (by decide)
    · rw [e] at h
      exact nI_ge hj (by decide) h
  · have hj4 : j = 0 ∨ j = 1 ∨ j = 2 ∨ j = 3 := by omega
    subst e
    rcases hj4 with e | e | e | e
    · subst e
      refine br_f (by decide) (br_t (by decide) (br_t rfl ?_))
      unfold wX_count_20
      refine xs_rea ok (av := fun _ => False) (fun i => ⟨fun z => absurd z (sl_no i), False.elim⟩) (fun r hr => br_t rfl (xv_sz ?_))
      have hM : ∀ i, fa_pc (fd_M (fe_E n kd th el) (fe_st n)) i = true → i < n := fun i z => fe_Mn ok (fa_pt.mp z)
      have e1 : fa_cn (bt r) 16 = fz_k0 n kd th el := by
        rw [fa_cnE 16 (fun i _ => pM r hr i), fa_cn16 hn hM, fz_smC]
        rfl
      rw [e1]
      exact h1 rfl
    · subst e
      refine br_f (by decide) (br_t (by decide) (br_f (by decide) (br_f (by decide) (xv_sol ok hev is hk (fun p bg' en' ob' ot' oe' hf => br_t rfl (xv_sz ?_))))))
      have e1 : fa_cn (bt ob') 16 = fz_k1 n p := by
        have e2 : fa_cn (bt ob') 16 = fa_cn p.2 16 := fa_cnE 16 (fun i _ => by rw [hf.2.1.1.2 i])
        rw [e2, fa_cn16 hn (fun i hi => ((hf.2.1.2.1 i).1 hi).1), fz_smC]
        rfl
      rw [e1]
      exact h3 rfl p bg' en' ob' ot' oe' hf.1
    · subst e
      refine br_f (by decide) (br_t (by decide) (br_f (by decide) (br_t rfl ?_)))
      unfold wX_count_20
      refine xs_rea ok (av := fun _ => False) (fun i => ⟨fun z => absurd z (sl_no i), False.elim⟩) (fun r hr => br_f (by decide) (xv_eg ok ?_))
      have e1 : fz_sm (fun x => if bt r x = true then (kd x).toNatClampNeg else 0) n = fz_k2 n kd th el := by
        refine fz_smE n (fun j _ => ?_)
        by_cases z : bt r j = true
        · rw [if_pos z, if_pos ((pM r hr j).mp z)]
        · rw [if_neg z, if_neg (fun w => z ((pM r hr j).mpr w))]
      rw [e1]
      exact h2 rfl
    · subst e
      refine br_f (by decide) (br_t (by decide) (br_f (by decide) (br_f (by decide) (xv_sol ok hev is hk (fun p bg' en' ob' ot' oe' hf => br_f (by decide) (xv_sz (xv_sz ?_)))))))
      have ht : ∀ i, bt ot' i = true ↔ (p.2 i = true ∧ fz_lt kd i (fz_en sz op rs fi se p.1 i (ev i).toNatClampNeg)) := fun i => ⟨hf.2.1.2.2.2.1 i, fun z => (hf.2.2 i z.1).2.1 z.2⟩
      have he : ∀ i, bt oe' i = true ↔ (p.2 i = true ∧ fz_l2 kd i (fz_en sz op rs fi se p.1 i (ev i).toNatClampNeg)) := fun i => ⟨hf.2.1.2.2.2.2 i, fun z => (hf.2.2 i z.1).2.2 z.2⟩
      have e1 : fa_cn (bt ot') 16 + fa_cn (bt oe') 16 = fz_k3 n sz kd ev op rs fi se p := by
        rw [fa_cn16 hn (fun i hi => ((hf.2.1.2.1 i).1 ((ht i).mp hi).1).1), fa_cn16 hn (fun i hi => ((hf.2.1.2.1 i).1 ((he i).mp hi).1).1), fz_smC, fz_smC, ← fz_smA]
        refine fz_smE n (fun j _ => ?_)
        unfold fz_wy fz_on
        by_cases q : p.2 j = true
        · rw [if_pos q]
          congr 1
          · by_cases z : bt ot' j = true
            · rw [if_pos z, if_pos ((ht j).mp z).2]
            · rw [if_neg z, if_neg (fun w => z ((ht j).mpr ⟨q, w⟩))]
          · by_cases z : bt oe' j = true
            · rw [if_pos z, if_pos ((he j).mp z).2]
            · rw [if_neg z, if_neg (fun w => z ((he j).mpr ⟨q, w⟩))]
        · rw [if_neg q, if_neg (fun z => q ((ht j).mp z).1), if_neg (fun z => q ((he j).mp z).1)]
      rw [nI_add, e1]
      exact h4 rfl p bg' en' ob' ot' oe' hf.1
end
