theorem xs_or0 (x : Int32) : x ||| 0 = x := fa_ext (fun i => by rw [sl_or]; exact ⟨fun z => z.elim id (fun y => absurd y (sl_no i)), Or.inl⟩)
theorem xs_0or (x : Int32) : 0 ||| x = x := fa_ext (fun i => by rw [sl_or]; exact ⟨fun z => z.elim (fun y => absurd y (sl_no i)) id, Or.inr⟩)
theorem xs_ora (x y z : Int32) : (x ||| y) ||| z = x ||| (y ||| z) := fa_ext (fun i => by rw [sl_or, sl_or, sl_or, sl_or, or_assoc])
theorem xs_m1 (x : Int32) : x + (-1) = x - 1 := (Int32.sub_eq_add_neg x 1).symm
theorem xs_neg : nI 0 - 1 < 0 := by decide
theorem xs_uf {post : Int32 → Prop} {x : Int32} {o : Nat} (ho : o < 8) (e : x = nI o) (h0 : ¬ (1 ≤ o ∧ o ≤ 6) → post 0) (h1 : 1 ≤ o ∧ o ≤ 6 → post 1) : wpX_usesFirst post x := by
  subst e
  by_cases a : o < 1
  · exact br_t (nI_lt (b := 1) a (by decide)) (h0 (by omega))
  · refine br_f (nI_nlt (b := 1) (by omega) (by omega)) ?_
    by_cases c : 6 < o
    · exact br_t (nI_lt (a := 6) c (by omega)) (h0 (by omega))
    · exact br_f (nI_nlt (a := 6) (by omega) (by decide)) (h1 (by omega))
theorem xs_u2 {post : Int32 → Prop} {x : Int32} {o : Nat} (ho : o < 8) (e : x = nI o) (h0 : ¬ (2 ≤ o ∧ o ≤ 6) → post 0) (h1 : 2 ≤ o ∧ o ≤ 6 → post 1) : wpX_usesSecond post x := by
  subst e
  by_cases a : o < 2
  · exact br_t (nI_lt (b := 2) a (by decide)) (h0 (by omega))
  · refine br_f (nI_nlt (b := 2) (by omega) (by omega)) ?_
    by_cases c : 6 < o
    · exact br_t (nI_lt (a := 6) c (by omega)) (h0 (by omega))
    · exact br_f (nI_nlt (a := 6) (by omega) (by decide)) (h1 (by omega))
theorem fe_u1 {o : Nat} (ho : o < 8) {a b : Int32} : fe_u (nI o) a b = (if 1 ≤ o ∧ o ≤ 6 then (1 : Int32) <<< (a &&& 31) else 0) ||| (if 2 ≤ o ∧ o ≤ 6 then (1 : Int32) <<< (b &&& 31) else 0) := by
  unfold fe_u
  have e1 : (if (1 : Int32) ≤ nI o ∧ nI o ≤ 6 then (1 : Int32) <<< (a &&& 31) else 0) = (if 1 ≤ o ∧ o ≤ 6 then (1 : Int32) <<< (a &&& 31) else 0) := by
    by_cases h : 1 ≤ o ∧ o ≤ 6
    · rw [if_pos h, if_pos ⟨(fe_l1 o ho).mpr h.1, (fe_l6 o ho).mpr h.2⟩]
    · rw [if_neg h, if_neg (fun z => h ⟨(fe_l1 o ho).mp z.1, (fe_l6 o ho).mp z.2⟩)]
  have e2 : (if (2 : Int32) ≤ nI o ∧ nI o ≤ 6 then (1 : Int32) <<< (b &&& 31) else 0) = (if 2 ≤ o ∧ o ≤ 6 then (1 : Int32) <<< (b &&& 31) else 0) := by
    by_cases h : 2 ≤ o ∧ o ≤ 6
    · rw [if_pos h, if_pos ⟨(fe_l2 o ho).mpr h.1, (fe_l6 o ho).mpr h.2⟩]
    · rw [if_neg h, if_neg (fun z => h ⟨(fe_l2 o ho).mp z.1, (fe_l6 o ho).mp z.2⟩)]
  rw [e1, e2]
section
variable {n k : Nat} {me ob ot oe it lr lb la : Int32} {sz kd ev th el op rs fi se dm fr lv va : Nat → Int32} {bg en : Nat → Int64}
theorem xs_w58 {post : Int32 → Prop} {q o : Nat} {w : Int32} (hq : q < 64) (ho : o < 8) (eo : op q = nI o) (hp : post (w ||| (if 2 ≤ o ∧ o ≤ 6 then (1 : Int32) <<< (se q &&& 31) else 0))) : wX_wantedBefore_58 post (nI q) w (nI n) (nI k) me ob ot oe it lr lb la sz kd ev th el op rs fi se dm fr lv bg en va := by
  have c : (nI q).toNatClampNeg = q := nI_clamp (by omega)
  have vi : vp_in (nI q) 64 := vp_in_nI hq (by omega)
  refine ⟨vi, xs_u2 ho (by rw [c]; exact eo) (fun z => br_t rfl ?_) (fun z => br_f (by decide) ⟨vi, ?_⟩)⟩
  · rw [if_neg z, xs_or0] at hp
    exact hp
  · rw [if_pos z] at hp
    intro y ey
    rw [c] at ey
    rw [ey]
    exact hp
theorem xs_w23 {post : Int32 → Prop} {q o : Nat} {w x4 : Int32} (hq : q < 64) (ho : o < 8) (eo : op q = nI o) (hp : post (fw_g ((1 : Int32) <<< (x4 &&& 31)) (fe_u (op q) (fi q) (se q)) w)) : wX_wantedBefore_23 post (nI q) w x4 (nI n) (nI k) me ob ot oe it lr lb la sz kd ev th el op rs fi se dm fr lv bg en va := by
  have c : (nI q).toNatClampNeg = q := nI_clamp (by omega)
  have vi : vp_in (nI q) 64 := vp_in_nI hq (by omega)
  rw [eo, fe_u1 ho] at hp
  unfold fw_g fw_k at hp
  rw [← xs_ora] at hp
  intro y ey
  rw [← ey] at hp
  refine ⟨vi, xs_uf ho (by rw [c]; exact eo) (fun z => br_t rfl ?_) (fun z => br_f (by decide) ⟨vi, ?_⟩)⟩
  · rw [if_neg z, xs_or0] at hp
    exact xs_w58 hq ho eo hp
  · rw [if_pos z] at hp
    intro y' ey'
    rw [c] at ey'
    rw [← ey'] at hp
    exact xs_w58 hq ho eo hp
theorem xs_wb0 (is : fe_is n sz op rs fi se) {post : Int32 → Prop} {x i s : Nat} {w : Int32} (hx : x < n) (hn : n ≤ 16) (es : sz x = nI s) (hs4 : s ≤ 4) (hi : i < s) (hp : post (fw_g (fe_m rs x i) (fe_us op fi se x i) w)) : wpX_wantedBefore post ((nI n), (nI k), me, ob, ot, oe, it, lr, lb, la, sz, kd, ev, th, el, op, rs, fi, se, dm, fr, lv, bg, en, va) (nI (4 * x + i)) w 0 := by
  obtain ⟨s', hs, es', h⟩ := is x hx
  have e := (nI_eq (by omega) (by omega)).mp (es'.symm.trans es)
  subst e
  obtain ⟨⟨o, ho, eo, _, _⟩, _⟩ := h i hi
  have c : (nI (4 * x + i)).toNatClampNeg = 4 * x + i := nI_clamp (by omega)
  refine ⟨vp_in_nI (by omega) (by omega), ?_⟩
  intro y ey
  rw [c] at ey
  refine br_t rfl (xs_w23 (by omega) ho eo ?_)
  rw [ey]
  exact hp
theorem xs_wb1 (is : fe_is n sz op rs fi se) {post : Int32 → Prop} {x i s : Nat} {w : Int32} (hx : x < n) (hn : n ≤ 16) (es : sz x = nI s) (hs4 : s ≤ 4) (hi : i < s) (hp : post (fn_X (fe_d rs) (fe_m rs) (fe_us op fi se) x i w)) : wpX_wantedBefore post ((nI n), (nI k), me, ob, ot, oe, it, lr, lb, la, sz, kd, ev, th, el, op, rs, fi, se, dm, fr, lv, bg, en, va) (nI (4 * x + i)) w 1 := by
  obtain ⟨s', hs, es', h⟩ := is x hx
  have e := (nI_eq (by omega) (by omega)).mp (es'.symm.trans es)
  subst e
  obtain ⟨⟨o, ho, eo, _, _⟩, v, hv, ev⟩ := h i hi
  have c : (nI (4 * x + i)).toNatClampNeg = 4 * x + i := nI_clamp (by omega)
  have cd : fe_d rs x i = v := by unfold fe_d; rw [ev, nI_clamp (by omega)]
  unfold fn_X at hp
  rw [cd] at hp
  refine ⟨vp_in_nI (by omega) (by omega), ?_⟩
  intro y ey
  rw [c, ev] at ey
  subst ey
  refine br_f (by decide) (xs_has (by omega) (fun z => br_t rfl ?_) (fun z => br_f (by decide) (xs_w23 (by omega) ho eo ?_)))
  · rw [if_neg z] at hp
    exact hp
  · rw [if_pos z] at hp
    unfold fe_m at hp
    rw [ev] at hp
    exact hp
theorem xs_wae (ok : fe_ok n kd th el) (hv : fe_ev n kd ev) {post : Int32 → Prop} {x : Nat} (hx : x < n) (hp : post (fe_x kd ev th el lv x)) : wpX_wantedAtExit post ((nI n), (nI k), me, ob, ot, oe, it, lr, lb, la, sz, kd, ev, th, el, op, rs, fi, se, dm, fr, lv, bg, en, va) (nI x) := by
  have hn := ok.1
  have c : (nI x).toNatClampNeg = x := nI_clamp (by omega)
  have vi : vp_in (nI x) 16 := vp_in_nI (by omega) (by omega)
  unfold fe_x at hp
  refine fe_cs ok hx (fun k0 => ?_) (fun t k1 _ ht e1 => ?_) (fun t t' k2 _ ht e1 _ ht' e2 => ?_)
  · rw [if_neg (by rw [k0]; decide), if_pos k0, if_neg (by rw [k0]; decide), xs_or0, xs_or0] at hp
    refine ⟨vi, br_f (by rw [c, k0]; decide) ⟨vi, vi, br_t (by rw [c]; exact k0) ⟨vi, br_f (by rw [c, k0]; decide) ?_⟩⟩⟩
    rw [c]
    exact hp
  · have ct : (nI t).toNatClampNeg = t := nI_clamp (by omega)
    rw [if_pos k1, if_neg (by rw [k1]; decide), if_neg (by rw [k1]; decide), xs_or0, e1, ct] at hp
    refine ⟨vi, br_t (by rw [c]; exact k1) ⟨vi, br_f (by rw [c, k1]; decide) ⟨vi, by rw [c, e1]; exact vp_in_nI (by omega) (by omega), ?_⟩⟩⟩
    intro y ey
    rw [c, e1, ct] at ey
    refine ⟨vi, br_f (by rw [c, k1]; decide) ?_⟩
    rw [ey]
    exact hp
  · have ct : (nI t).toNatClampNeg = t := nI_clamp (by omega)
    have ct' : (nI t').toNatClampNeg = t' := nI_clamp (by omega)
    rw [if_neg (by rw [k2]; decide), if_neg (by rw [k2]; decide), if_pos k2, e1, ct, e2, ct'] at hp
    refine ⟨vi, br_f (by rw [c, k2]; decide) ⟨vi, vi, br_f (by rw [c, k2]; decide) ⟨vi, by rw [c, e1]; exact vp_in_nI (by omega) (by omega), ?_⟩⟩⟩
    intro y ey
    rw [c, e1, ct] at ey
    refine ⟨vi, br_t (by rw [c]; exact k2) ⟨vi, by rw [c, e2]; exact vp_in_nI (by omega) (by omega), ?_⟩⟩
    intro y' ey'
    rw [c, e2, ct'] at ey'
    rw [ey', ey]
    exact hp
theorem xs_wab (ok : fe_ok n kd th el) (hv : fe_ev n kd ev) {fl : Int32} {f : Nat → Int32 → Int32} {x s : Nat} (hx : x < n) (es : sz x = nI s) (hs : s ≤ 4)
    (hw : ∀ i, i < s → ∀ (w : Int32) (post : Int32 → Prop), post (f i w) → wpX_wantedBefore post ((nI n), (nI k), me, ob, ot, oe, it, lr, lb, la, sz, kd, ev, th, el, op, rs, fi, se, dm, fr, lv, bg, en, va) (nI (4 * x + i)) w fl)
    {post : Int32 → Prop} (hp : post (fw_d f (fe_x kd ev th el lv x) s s)) : wpX_wantedAtBeginning post ((nI n), (nI k), me, ob, ot, oe, it, lr, lb, la, sz, kd, ev, th, el, op, rs, fi, se, dm, fr, lv, bg, en, va) (nI x) fl := by
  unfold wpX_wantedAtBeginning
  have hn := ok.1
  have c : (nI x).toNatClampNeg = x := nI_clamp (by omega)
  have L : ∀ m j w, j ≤ s → j < m → w = fw_d f (fe_x kd ev th el lv x) s (s - j) → wX_wantedAtBeginning_16 post (nI x) fl (nI n) (nI k) me ob ot oe it lr lb la sz kd ev th el op rs fi se dm fr lv bg en va m w (nI j - 1) := by
    intro m
    induction m with
    | zero => intro j w _ h; omega
    | succ m ih =>
      intro j w hj hm hw2
      cases j with
      | zero =>
        refine br_t xs_neg ?_
        rw [hw2]
        exact hp
      | succ j =>
        rw [nI_pred]
        refine br_f (nI_pos (by omega)) ?_
        rw [xs_ix]
        refine hw j (by omega) _ _ ?_
        refine nm_r (xs_m1 _) (ih j _ (by omega) (by omega) ?_)
        have e1 : s - j = (s - (j + 1)) + 1 := by omega
        have e2 : s - 1 - (s - (j + 1)) = j := by omega
        rw [e1]
        show f j w = f (s - 1 - (s - (j + 1))) (fw_d f (fe_x kd ev th el lv x) s (s - (j + 1)))
        rw [e2, hw2]
  refine xs_wae ok hv hx ⟨vp_in_nI (by omega) (by omega), ?_⟩
  intro y ey
  rw [c, es] at ey
  subst ey
  refine ⟨s + 1, L (s + 1) s _ (by omega) (by omega) ?_⟩
  rw [Nat.sub_self]
  rfl
theorem xs_slv (hn : n ≤ 16) {W : (Nat → Int32) → Nat → Int32} (hm : fl_mo n W) {fl : Int32} (hW : ∀ lv' x, x < n → ∀ post : Int32 → Prop, post (W lv' x) → wpX_wantedAtBeginning post ((nI n), (nI k), me, ob, ot, oe, it, lr, lb, la, sz, kd, ev, th, el, op, rs, fi, se, dm, fr, lv', bg, en, va) (nI x) fl)
    {post : SX → Prop} (hp : ∀ lv', fl_ls n W lv' → post ((nI n), (nI k), me, ob, ot, oe, it, lr, lb, la, sz, kd, ev, th, el, op, rs, fi, se, dm, fr, lv', bg, en, va)) : wpX_solveLives post ((nI n), (nI k), me, ob, ot, oe, it, lr, lb, la, sz, kd, ev, th, el, op, rs, fi, se, dm, fr, lv, bg, en, va) fl := by
  have L2 : ∀ (J : Int32 → Int32 → (Nat → Int32) → (Nat → Int32) → (Nat → Int32) → (Nat → Int32) → (Nat → Int32) → (Nat → Int32) → (Nat → Int32) → (Nat → Int32) → (Nat → Int32) → (Nat → Int32) → (Nat → Int32) → (Nat → Int32) → (Nat → Int64) → (Nat → Int64) → (Nat → Int32) → Prop) (r : Nat) (L0 : Nat → Int32),
      (∀ ch lv', (ch = 0 ∨ ch = 1) → fl_in n W L0 (fun c => 0 ≤ c) lv' (¬ ch = 0) → J ch (nI (r + 1)) sz kd ev th el op rs fi se dm fr lv' bg en va) →
      ∀ m j ch lv', j ≤ n → j < m → (ch = 0 ∨ ch = 1) → fl_in n W L0 (fun c => j ≤ c) lv' (¬ ch = 0) → wX_solveLives_45 post J fl (nI r) (nI n) (nI k) me ob ot oe it lr lb la m ch (nI j - 1) sz kd ev th el op rs fi se dm fr lv' bg en va := by
    intro J r L0 hJ m
    induction m with
    | zero => intro j ch lv' _ h; omega
    | succ m ih =>
      intro j ch lv' hj hmm hch hi
      cases j with
      | zero =>
        exact br_t xs_neg (nm_r (nI_1 r) (hJ ch lv' hch hi))
      | succ j =>
        rw [nI_pred]
        have c : (nI j).toNatClampNeg = j := nI_clamp (by omega)
        have vi : vp_in (nI j) 16 := vp_in_nI (by omega) (by omega)
        have nx : ∀ ch' : Int32, (ch' = 0 ∨ ch' = 1) → (¬ ch' = 0 ↔ ¬ ch = 0 ∨ ¬ W lv' j = lv' j) →
            wX_solveLives_80 post J (wX_solveLives_45 post J fl (nI r) (nI n) (nI k) me ob ot oe it lr lb la m) fl (nI r) (nI j) (W lv' j) ch' (nI n) (nI k) me ob ot oe it lr lb la sz kd ev th el op rs fi se dm fr lv' bg en va := by
          intro ch' h1 h2
          refine ⟨vi, ?_⟩
          intro y ey
          rw [c] at ey
          subst ey
          refine nm_r (xs_m1 _) (ih j ch' _ (by omega) (by omega) h1 (fl_in1 hm hi (by omega) (fun d hd _ => ?_) h2))
          omega
        refine br_f (nI_pos (by omega)) (hW lv' j (by omega) _ ?_)
        by_cases z : ch = 0
        · refine br_t z ⟨vi, ?_⟩
          by_cases q : W lv' j = lv' j
          · refine br_t (by rw [c]; exact q) (nx 0 (Or.inl rfl) ⟨fun w => absurd rfl w, fun w => w.elim (fun y => absurd z y) (fun y => absurd q y)⟩)
          · refine br_f (by rw [c]; exact q) (nx 1 (Or.inr rfl) ⟨fun _ => Or.inr q, fun _ => by decide⟩)
        · exact br_f z (nx 1 (Or.inr rfl) ⟨fun _ => Or.inl z, fun _ => by decide⟩)
  have L1 : ∀ m r lv', 514 - fl_su lv' n < m → r ≤ fl_su lv' n → fl_lo n W lv' → fl_up n W lv' → wX_solveLives_25 post fl (nI n) (nI k) me ob ot oe it lr lb la m 1 (nI r) sz kd ev th el op rs fi se dm fr lv' bg en va := by
    intro m
    induction m with
    | zero => intro r lv' h; omega
    | succ m ih =>
      intro r lv' hmm hr h1 h2
      have hb := fl_su_b lv' n
      refine br_f (by decide) (br_f (nI_ge (b := 100000) (by omega) (by decide)) ?_)
      intro y ey
      subst ey
      refine ⟨n + 1, L2 _ r lv' (fun ch lv2 hch hi => ?_) (n + 1) n 0 lv' (by omega) (by omega) (Or.inl rfl) (fl_in0 h1 h2 (fun z => z rfl) (fun b hb z => by omega))⟩
      rcases hch with e | e
      · subst e
        cases m with
        | zero => omega
        | succ m => exact br_t rfl (hp lv2 (fl_in2 hi (fun z => z rfl) (fun b _ => Nat.zero_le b)))
      · subst e
        have h3 := hi.2.2.2.1 (by decide)
        exact ih (r + 1) lv2 (by omega) (by omega) hi.1 hi.2.1
  have L0 : ∀ m x lv', x ≤ 16 → 16 - x < m → (∀ z, z < x → lv' z = 0) → wX_solveLives_2 post fl (nI n) (nI k) me ob ot oe it lr lb la m (nI x) sz kd ev th el op rs fi se dm fr lv' bg en va := by
    intro m
    induction m with
    | zero => intro x lv' _ h; omega
    | succ m ih =>
      intro x lv' hx hmm hi
      by_cases e : x = 16
      · subst e
        have h := fl_00 (n := n) (W := W) (L := lv') (fun b hb => hi b (by omega))
        exact br_t (by decide) ⟨515, L1 515 0 lv' (by omega) (Nat.zero_le _) h.1 h.2⟩
      · have c : (nI x).toNatClampNeg = x := nI_clamp (by omega)
        refine br_f (nI_ge (b := 16) (by omega) (by decide)) ⟨vp_in_nI (by omega) (by omega), ?_⟩
        intro y ey
        rw [c] at ey
        subst ey
        refine nm_r (nI_1 x) (ih (x + 1) _ (by omega) (by omega) (fun z hz => ?_))
        by_cases ez : z = x
        · rw [ez, pk_us]
        · rw [pk_un ez]; exact hi z (by omega)
  exact ⟨17, L0 17 0 lv (by omega) (by omega) (fun z hz => absurd hz (Nat.not_lt_zero z))⟩
theorem xs_lvs (ok : fe_ok n kd th el) (hv : fe_ev n kd ev) (is : fe_is n sz op rs fi se) {post : Int32 → SX → Prop} {v1 : Int32} (h0 : (∀ j, j < n → ¬ v1 = nI j) → post (-1) ((nI n), (nI k), me, ob, ot, oe, it, lr, lb, la, sz, kd, ev, th, el, op, rs, fi, se, dm, fr, lv, bg, en, va))
    (h1 : ∀ b, b < n → v1 = nI b → ∀ lv', fl_ls n (fe_WA sz kd ev th el op rs fi se) lv' → post (lv' b) ((nI n), (nI k), me, ob, ot, oe, it, lr, lb, la, sz, kd, ev, th, el, op, rs, fi, se, dm, fr, lv', bg, en, va)) : wpX_lives post ((nI n), (nI k), me, ob, ot, oe, it, lr, lb, la, sz, kd, ev, th, el, op, rs, fi, se, dm, fr, lv, bg, en, va) v1 := by
  unfold wpX_lives
  have hn := ok.1
  refine xs_isB hn (fun z => br_t rfl (h0 z)) (fun b hlb eb => br_f (by decide) ?_)
  refine xs_slv hn (W := fe_WA sz kd ev th el op rs fi se) (fe_WAm ok hv) (fun lv' x hx post hp => ?_) (fun lv' hl => ?_)
  · obtain ⟨s, hs, es, cs, _⟩ := fe_ix is hx
    unfold fe_WA at hp
    rw [cs] at hp
    exact xs_wab ok hv hx es hs (fun i hi w post h => xs_wb0 is hx hn es hs hi h) hp
  · subst eb
    have c : (nI b).toNatClampNeg = b := nI_clamp (by omega)
    refine ⟨vp_in_nI (by omega) (by omega), ?_⟩
    rw [c]
    exact h1 b hlb rfl lv' hl
/-- X's rule for NEEDED -/
theorem fe_WXm (ok : fe_ok n kd th el) (hv : fe_ev n kd ev) (is : fe_is n sz op rs fi se) : fl_mo n (fn_WX (fe_d rs) (fe_m rs) (fe_us op fi se) (fun x => (sz x).toNatClampNeg) (fe_x kd ev th el)) := by
  intro L M hL x hx
  obtain ⟨s, hs, es, cs, h⟩ := fe_ix is hx
  refine fw_mo (fe_xm ok hv hx (fun y e => hL y (fe_El ok e))) _ (fun i hi z => fn_Xm ?_ z)
  dsimp only at hi ⊢
  rw [cs] at hi ⊢
  obtain ⟨_, v, hv2, ev2⟩ := h (s - 1 - i) (by omega)
  exact fe_mb ev2 hv2
theorem xs_ndd (ok : fe_ok n kd th el) (hv : fe_ev n kd ev) (is : fe_is n sz op rs fi se) {post : Int32 → SX → Prop} {v1 : Int32} (h0 : (∀ b, b < n → v1 = nI b → ¬ fd_M (fe_E n kd th el) (fe_st n) b) → post 0 ((nI n), (nI k), me, ob, ot, oe, it, lr, lb, la, sz, kd, ev, th, el, op, rs, fi, se, dm, fr, lv, bg, en, va))
    (h1 : ∀ b, b < n → v1 = nI b → fd_M (fe_E n kd th el) (fe_st n) b → ∀ r lv', fl_ls n (fn_WX (fe_d rs) (fe_m rs) (fe_us op fi se) (fun x => (sz x).toNatClampNeg) (fe_x kd ev th el)) lv' →
      (∀ i, bt r i = true ↔ (i < (sz b).toNatClampNeg ∧ bt (fw_d (fn_X (fe_d rs) (fe_m rs) (fe_us op fi se) b) (fe_x kd ev th el lv' b) (sz b).toNatClampNeg ((sz b).toNatClampNeg - 1 - i)) (fe_d rs b i) = true)) → post r ((nI n), (nI k), me, ob, ot, oe, it, lr, lb, la, sz, kd, ev, th, el, op, rs, fi, se, dm, fr, lv', bg, en, va)) : wpX_needed post ((nI n), (nI k), me, ob, ot, oe, it, lr, lb, la, sz, kd, ev, th, el, op, rs, fi, se, dm, fr, lv, bg, en, va) v1 := by
  unfold wpX_needed
  have hn := ok.1
  refine xs_rea ok (av := fun _ => False) (fun i => ⟨fun z => absurd z (sl_no i), False.elim⟩) (fun me' hm => ?_)
  refine xs_isB hn (fun z => br_t rfl (h0 (fun b hlb eb => absurd eb (z b hlb)))) (fun b hlb eb => br_f (by decide) ?_)
  subst eb
  refine xs_has (by omega) (fun z => br_t rfl (h0 (fun b' hlb' eb' q => z ?_))) (fun z => br_f (by decide) ?_)
  · rw [(nI_eq (by omega) (by omega)).mp eb']
    exact (hm b').mpr q
  have mb := (hm b).mp z
  refine xs_slv hn (fe_WXm ok hv is) (fun lv' x hx post hp => ?_) (fun lv' hl => ?_)
  · obtain ⟨s, hs, es, cs, _⟩ := fe_ix is hx
    unfold fn_WX at hp
    dsimp only at hp
    rw [cs] at hp
    exact xs_wab ok hv hx es hs (fun i hi w post h => xs_wb1 is hx hn es hs hi h) hp
  · obtain ⟨s, hs, es, cs, hi1⟩ := fe_ix is hlb
    have c : (nI b).toNatClampNeg = b := nI_clamp (by omega)
    have h1' := h1 b hlb rfl mb
    rw [cs] at h1'
    have L : ∀ m j f w, j ≤ s → j < m → w = fw_d (fn_X (fe_d rs) (fe_m rs) (fe_us op fi se) b) (fe_x kd ev th el lv' b) s (s - j) →
        (∀ i, bt f i = true ↔ (j ≤ i ∧ i < s ∧ bt (fw_d (fn_X (fe_d rs) (fe_m rs) (fe_us op fi se) b) (fe_x kd ev th el lv' b) s (s - 1 - i)) (fe_d rs b i) = true)) →
        wX_needed_48 post (nI b) (nI n) (nI k) me ob ot oe it lr lb la sz kd ev th el op rs fi se dm fr lv' bg en va m f w (nI j - 1) := by
      intro m
      induction m with
      | zero => intro j f w _ h; omega
      | succ m ih =>
        intro j f w hj hmm hw hf
        cases j with
        | zero =>
          refine br_t xs_neg (h1' f lv' hl (fun i => ?_))
          rw [hf i]
          exact ⟨fun q => q.2, fun q => ⟨Nat.zero_le i, q⟩⟩
        | succ j =>
          rw [nI_pred]
          obtain ⟨_, v, hv2, ev2⟩ := hi1 j (by omega)
          have c4 : (nI (4 * b + j)).toNatClampNeg = 4 * b + j := nI_clamp (by omega)
          have cd : fe_d rs b j = v := by unfold fe_d; rw [ev2, nI_clamp (by omega)]
          have e0 : s - 1 - j = s - (j + 1) := by omega
          have nx : ∀ f', (∀ i, bt f' i = true ↔ (j ≤ i ∧ i < s ∧ bt (fw_d (fn_X (fe_d rs) (fe_m rs) (fe_us op fi se) b) (fe_x kd ev th el lv' b) s (s - 1 - i)) (fe_d rs b i) = true)) →
              wX_needed_83 post (wX_needed_48 post (nI b) (nI n) (nI k) me ob ot oe it lr lb la sz kd ev th el op rs fi se dm fr lv' bg en va m) (nI b) f' w (nI j) (nI (4 * b + j)) (nI n) (nI k) me ob ot oe it lr lb la sz kd ev th el op rs fi se dm fr lv' bg en va := by
            intro f' hf'
            refine xs_wb1 is hlb hn es hs (by omega) (nm_r (xs_m1 _) (ih j f' _ (by omega) (by omega) ?_ hf'))
            have e1 : s - j = (s - (j + 1)) + 1 := by omega
            have e2 : s - 1 - (s - (j + 1)) = j := by omega
            rw [e1]
            show _ = fn_X (fe_d rs) (fe_m rs) (fe_us op fi se) b (s - 1 - (s - (j + 1))) (fw_d (fn_X (fe_d rs) (fe_m rs) (fe_us op fi se) b) (fe_x kd ev th el lv' b) s (s - (j + 1)))
            rw [e2, hw]
          refine br_f (nI_pos (by omega)) ?_
          intro y ey
          rw [xs_ix] at ey
          subst ey
          refine ⟨vp_in_nI (by omega) (by omega), ?_⟩
          rw [c4, ev2]
          refine xs_has (by omega) (fun z => br_t rfl (nx f (fun i => ?_))) (fun z => br_f (by decide) ?_)
          · rw [hf i]
            refine ⟨fun q => ⟨by omega, q.2⟩, fun q => ⟨?_, q.2⟩⟩
            have : ¬ i = j := by
              intro e
              subst e
              apply z
              have := q.2.2
              rw [e0, ← hw, cd] at this
              exact this
            omega
          · intro y ey
            refine nx y (fun i => ?_)
            rw [ey, sl_or, sl_sg (by omega), hf i]
            constructor
            · rintro (q | q)
              · exact ⟨by omega, q.2⟩
              · subst q
                refine ⟨Nat.le_refl _, by omega, ?_⟩
                rw [e0, ← hw, cd]
                exact z
            · intro q
              by_cases e : i = j
              · exact Or.inr e
              · exact Or.inl ⟨by omega, q.2⟩
    refine xs_wae ok hv hlb ⟨vp_in_nI (by omega) (by omega), ?_⟩
    intro y ey
    rw [c, es] at ey
    subst ey
    refine ⟨s + 1, L (s + 1) s 0 _ (by omega) (by omega) (by rw [Nat.sub_self]; rfl) (fun i => ⟨fun q => absurd q (sl_no i), fun q => by omega⟩)⟩
end
