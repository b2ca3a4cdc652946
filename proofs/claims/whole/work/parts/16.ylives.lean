theorem ys_4 (x : Nat) : (4 : Int32) * nI x = nI (4 * x) := by
  show nI 4 * nI x = _
  rw [pk_mul]
section
variable {n k : Nat} {ym yr yb yl : Int32} {sz kd ev th el op rs fi se us f1 f2 yv nd ru eg yo yw : Nat → Int32} {yg nw : Nat → Int64}
theorem ys_use {post : Int32 → Prop} {q v : Nat} (hq : q < 64) (hv : v < 6) (h : fe_i1 op rs fi se q) (h0 : ¬ bt (fe_u (op q) (fi q) (se q)) v = true → post 0) (h1 : bt (fe_u (op q) (fi q) (se q)) v = true → post 1) : wpY_uses post ((nI n), (nI k), ym, yr, yb, yl, sz, op, rs, fi, se, kd, us, f1, f2, yv, nd, ru, eg, yg, nw, yo, yw) (nI q) (nI v) := by
  obtain ⟨⟨o, ho, eo, ha, hb⟩, _⟩ := h
  have c : (nI q).toNatClampNeg = q := nI_clamp (by omega)
  have vi : vp_in (nI q) 64 := vp_in_nI hq (by omega)
  have ub := fe_ub ho ha hb v
  rw [← eo] at ub
  rw [ub] at h0 h1
  by_cases o1 : o = 1
  · obtain ⟨va, hva, ea⟩ := ha (by omega) (by omega)
    have ca : (fi q).toNatClampNeg = va := by rw [ea, nI_clamp (by omega)]
    rw [ca] at h0 h1
    refine ⟨vi, br_t (by rw [c, eo, o1]; rfl) ⟨vi, ?_⟩⟩
    by_cases z : v = va
    · exact br_t (by rw [c, ea, z]) (h1 (Or.inl ⟨by omega, by omega, z⟩))
    · refine br_f (fun w => z ?_) (h0 (fun w => ?_))
      · rw [c, ea] at w
        exact ((nI_eq (by omega) (by omega)).mp w).symm
      · rcases w with w | w
        · exact z w.2.2
        · omega
  · refine ⟨vi, br_f (fun w => o1 ?_) ⟨vi, ?_⟩⟩
    · rw [c, eo] at w
      exact (nI_eq (b := 1) (by omega) (by decide)).mp w
    by_cases o0 : o = 0
    · exact br_t (by rw [c, eo, o0]; decide) (h0 (fun w => by omega))
    · refine br_f (by rw [c, eo]; exact nI_ge (a := 1) (by omega) (by omega)) ⟨vi, ?_⟩
      by_cases o7 : o = 7
      · exact br_t (by rw [c, eo, o7]; decide) (h0 (fun w => by omega))
      · refine br_f (by rw [c, eo]; exact nI_ge (b := 7) (by omega) (by decide)) ⟨vi, ?_⟩
        obtain ⟨va, hva, ea⟩ := ha (by omega) (by omega)
        obtain ⟨vb, hvb, eb⟩ := hb (by omega) (by omega)
        have ca : (fi q).toNatClampNeg = va := by rw [ea, nI_clamp (by omega)]
        have cb : (se q).toNatClampNeg = vb := by rw [eb, nI_clamp (by omega)]
        rw [ca, cb] at h0 h1
        by_cases z : v = va
        · exact br_t (by rw [c, ea, z]) (h1 (Or.inl ⟨by omega, by omega, z⟩))
        · refine br_f (fun w => z ?_) ⟨vi, ?_⟩
          · rw [c, ea] at w
            exact ((nI_eq (by omega) (by omega)).mp w).symm
          by_cases z2 : v = vb
          · exact br_t (by rw [c, eb, z2]) (h1 (Or.inr ⟨by omega, by omega, z2⟩))
          · refine br_f (fun w => z2 ?_) (h0 (fun w => ?_))
            · rw [c, eb] at w
              exact ((nI_eq (by omega) (by omega)).mp w).symm
            · rcases w with w | w
              · exact z w.2.2
              · exact z2 w.2.2
theorem ys_136 {post : Int32 → Prop} {J : Int32 → Int32 → Prop} {x1 x2 x3 x5 : Int32} {q : Nat} {w0 : Int32} (hq : q < 64) (h : fe_i1 op rs fi se q) (hJ : J (w0 ||| fe_u (op q) (fi q) (se q)) (x5 - 1)) : ∃ m, wY_before_136 post J x1 x2 x3 x5 (nI q) 1 (nI n) (nI k) ym yr yb yl sz op rs fi se kd us f1 f2 yv nd ru eg yg nw yo yw m w0 0 := by
  have L : ∀ m j f, j ≤ 6 → 6 - j < m → sl_in (fun i => bt w0 i = true) (fun v i => i = v ∧ (v < 6 ∧ bt (fe_u (op q) (fi q) (se q)) v = true)) j f → wY_before_136 post J x1 x2 x3 x5 (nI q) 1 (nI n) (nI k) ym yr yb yl sz op rs fi se kd us f1 f2 yv nd ru eg yg nw yo yw m f (nI j) := by
    intro m
    induction m with
    | zero => intro j f _ h; omega
    | succ m ih =>
      intro j f hj hm hi
      by_cases e : j = 6
      · subst e
        refine br_t (by decide) (nm_r (xs_m1 _) ?_)
        have : f = w0 ||| fe_u (op q) (fi q) (se q) := by
          apply fa_ext
          intro i
          rw [sl_e hi (fun x i g => g.2.1), sl_or]
          refine or_congr Iff.rfl ⟨fun ⟨x, z1, z2, z3⟩ => by rw [z1]; exact z3, fun z => ⟨i, rfl, ?_, z⟩⟩
          obtain ⟨⟨o, ho, eo, ha, hb⟩, _⟩ := h
          rw [eo, fe_ub ho ha hb i] at z
          rcases z with ⟨z1, z2, z3⟩ | ⟨z1, z2, z3⟩
          · obtain ⟨va, hva, ea⟩ := ha z1 z2
            rw [ea, nI_clamp (by omega)] at z3
            omega
          · obtain ⟨va, hva, ea⟩ := hb z1 z2
            rw [ea, nI_clamp (by omega)] at z3
            omega
        rw [this]
        exact hJ
      · refine br_f (nI_ge (b := 6) (by omega) (by decide)) (br_f (by decide) (ys_use hq (by omega) h (fun z => br_t rfl (nm_r (nI_1 j) (ih (j + 1) f (by omega) (by omega) (sl_n hi (fun i g => z g.2.2))))) (fun z => br_f (by decide) ?_)))
        intro y ey
        refine nm_r (nI_1 j) (ih (j + 1) y (by omega) (by omega) (sl_1 hi (fun i => ?_)))
        rw [ey, sl_or, sl_sg (by omega)]
        exact or_congr Iff.rfl ⟨fun g => ⟨g, by omega, z⟩, fun g => g.1⟩
  exact ⟨7, L 7 0 w0 (by omega) (by omega) (sl_0 (fun i => Iff.rfl))⟩
theorem ys_bef (ok : fe_ok n kd th el) (hv : fe_ev n kd ev) (rl : fe_rl n kd ev th el us f1 f2) {fl : Int32} {f : Nat → Int32 → Int32} {x s p : Nat} (hx : x < n) (es : sz x = nI s) (hs : s ≤ 4) (hin : ∀ i, i < s → fe_i1 op rs fi se (4 * x + i)) (hpl : p ≤ s)
    (hf : (fl = 1 ∧ ∀ i w, f i w = fw_g (fe_m rs x i) (fe_us op fi se x i) w) ∨ (fl = 0 ∧ ∀ i w, f i w = fn_N (fe_m rs) (fe_us op fi se) nd x i w))
    {post : Int32 → Prop} (hp : post (fw_d f (fe_x kd ev th el yv x) s (s - p))) : wpY_before post ((nI n), (nI k), ym, yr, yb, yl, sz, op, rs, fi, se, kd, us, f1, f2, yv, nd, ru, eg, yg, nw, yo, yw) (nI x) (nI p) fl := by
  have hn := ok.1
  have c : (nI x).toNatClampNeg = x := nI_clamp (by omega)
  have vi : vp_in (nI x) 16 := vp_in_nI (by omega) (by omega)
  have L2 : ∀ m j w, p ≤ j → j ≤ s → j < m → w = fw_d f (fe_x kd ev th el yv x) s (s - j) → wY_before_78 post (nI x) (nI p) fl (nI n) (nI k) ym yr yb yl sz op rs fi se kd us f1 f2 yv nd ru eg yg nw yo yw m w (nI j - 1) := by
    intro m
    induction m with
    | zero => intro j w _ _ h; omega
    | succ m ih =>
      intro j w h1 h2 hm hw
      by_cases e : j = p
      · subst e
        refine br_t ?_ (by rw [hw]; exact hp)
        cases j with
        | zero => decide
        | succ j => rw [nI_pred]; exact nI_lt (by omega) (by omega)
      · cases j with
        | zero => omega
        | succ j =>
          rw [nI_pred]
          have hin' := hin j (by omega)
          refine br_f (nI_nlt (by omega) (by omega)) ?_
          intro y ey
          rw [ys_4, nI_add] at ey
          subst ey
          refine ⟨vp_in_nI (by omega) (by omega), ?_⟩
          intro w1 ew1
          rw [nI_clamp (by omega)] at ew1
          have ew2 : w1 = fw_k (fe_m rs x j) w := ew1
          have nxt : f j w = fw_d f (fe_x kd ev th el yv x) s (s - j) := by
            have e1 : s - j = (s - (j + 1)) + 1 := by omega
            have e2 : s - 1 - (s - (j + 1)) = j := by omega
            rw [e1]
            show f j w = f (s - 1 - (s - (j + 1))) (fw_d f (fe_x kd ev th el yv x) s (s - (j + 1)))
            rw [e2, hw]
          rcases hf with ⟨hfl, hf⟩ | ⟨hfl, hf⟩
          · refine br_f (by rw [hfl]; decide) (ys_136 (by omega) hin' (ih j _ (by omega) (by omega) (by omega) ?_))
            rw [← nxt, hf j w, ew2]
            rfl
          · refine br_t hfl ⟨vi, ys_has (by omega) (fun z => ⟨1, br_f (by decide) (br_t rfl (nm_r (xs_m1 _) (ih j _ (by omega) (by omega) (by omega) ?_)))⟩) (fun z => ys_136 (by omega) hin' (ih j _ (by omega) (by omega) (by omega) ?_))⟩
            · rw [c] at z
              rw [← nxt, hf j w, ew2]
              unfold fn_N
              rw [if_neg z]
            · rw [c] at z
              rw [← nxt, hf j w, ew2]
              unfold fn_N
              rw [if_pos z]
              rfl
  have L : ∀ m j g, j ≤ n → n - j < m → sl_in (fun _ => False) (fun y i => (fe_E n kd th el) x y ∧ bt (yv y) i = true) j g → wY_before_6 post (nI x) (nI p) fl (nI n) (nI k) ym yr yb yl sz op rs fi se kd us f1 f2 yv nd ru eg yg nw yo yw m g (nI j) := by
    intro m
    induction m with
    | zero => intro j g _ h; omega
    | succ m ih =>
      intro j g hj hm hi
      by_cases e : j = n
      · have e' := e.symm
        subst e'
        have hi2 := sl_e hi (fun y i q => fe_El ok q.1)
        refine br_t (Int32.le_refl _) ⟨vi, ?_⟩
        have q := rl x hx
        have hxb := fe_xb ok hv hx yv
        by_cases k1 : kd x = 1
        · refine br_t (by rw [c, q.1 k1]; decide) ⟨vi, ?_⟩
          intro y ey
          rw [c, es] at ey
          subst ey
          refine ⟨s + 1, L2 (s + 1) s g hpl (by omega) (by omega) ?_⟩
          rw [Nat.sub_self]
          apply fa_ext
          intro i
          show bt g i = true ↔ bt (fe_x kd ev th el yv x) i = true
          rw [hi2 i, hxb i]
          exact ⟨fun z => z.elim False.elim Or.inr, fun z => z.elim (fun w => absurd k1 w.1) Or.inr⟩
        · obtain ⟨v, hv2, ev2⟩ := hv x hx k1
          have eu : us x = nI v := (q.2.1 k1).trans ev2
          refine br_f (by rw [c, eu]; exact nI_pos (by omega)) ⟨vi, ?_⟩
          intro g2 eg2
          rw [c, eu] at eg2
          refine ⟨vi, ?_⟩
          intro y ey
          rw [c, es] at ey
          subst ey
          refine ⟨s + 1, L2 (s + 1) s g2 hpl (by omega) (by omega) ?_⟩
          rw [Nat.sub_self]
          apply fa_ext
          intro i
          show bt g2 i = true ↔ bt (fe_x kd ev th el yv x) i = true
          rw [eg2, sl_or, hi2 i, hxb i, sl_sg (by omega), ev2, nI_clamp (by omega)]
          constructor
          · rintro ((z | z) | z)
            · exact z.elim
            · exact Or.inr z
            · exact Or.inl ⟨k1, z⟩
          · rintro (z | z)
            · exact Or.inr z.2
            · exact Or.inl (Or.inr z)
      · have cj : (nI j).toNatClampNeg = j := nI_clamp (by omega)
        refine br_f (nI_ge (by omega) (by omega)) (ys_nxt ok rl hx (fun r hr => ys_has (by omega) (fun z => nm_r (nI_1 j) (ih (j + 1) g (by omega) (by omega) (sl_n hi (fun i q => z ((hr j).mpr q.1))))) (fun z => ⟨vp_in_nI (by omega) (by omega), ?_⟩)))
        intro y ey
        rw [cj] at ey
        refine nm_r (nI_1 j) (ih (j + 1) y (by omega) (by omega) (sl_1 hi (fun i => ?_)))
        rw [ey, sl_or]
        exact or_congr Iff.rfl ⟨fun w => ⟨(hr j).mp z, w⟩, fun w => w.2⟩
  exact ⟨n + 1, L (n + 1) 0 0 (by omega) (by omega) (sl_00 (fun _ z => z))⟩
theorem ys_slv (hn : n ≤ 16) {W : (Nat → Int32) → Nat → Int32} (hm : fl_mo n W) {fl : Int32} (hW : ∀ yv' x, x < n → ∀ post : Int32 → Prop, post (W yv' x) → wpY_before post ((nI n), (nI k), ym, yr, yb, yl, sz, op, rs, fi, se, kd, us, f1, f2, yv', nd, ru, eg, yg, nw, yo, yw) (nI x) 0 fl)
    {post : SY → Prop} (hp : ∀ yv', fl_ls n W yv' → post ((nI n), (nI k), ym, yr, yb, yl, sz, op, rs, fi, se, kd, us, f1, f2, yv', nd, ru, eg, yg, nw, yo, yw)) : wpY_live post ((nI n), (nI k), ym, yr, yb, yl, sz, op, rs, fi, se, kd, us, f1, f2, yv, nd, ru, eg, yg, nw, yo, yw) fl := by
  have L2 : ∀ (J : Int32 → (Nat → Int32) → (Nat → Int32) → (Nat → Int32) → (Nat → Int32) → (Nat → Int32) → (Nat → Int32) → (Nat → Int32) → (Nat → Int32) → (Nat → Int32) → (Nat → Int32) → (Nat → Int32) → (Nat → Int32) → (Nat → Int32) → (Nat → Int64) → (Nat → Int64) → (Nat → Int32) → (Nat → Int32) → Prop) (L0 : Nat → Int32),
      (∀ ch yv', (ch = 0 ∨ ch = 1) → fl_in n W L0 (fun c => c < n) yv' (¬ ch = 0) → J ch sz op rs fi se kd us f1 f2 yv' nd ru eg yg nw yo yw) →
      ∀ m j ch yv', j ≤ n → n - j < m → (ch = 0 ∨ ch = 1) → fl_in n W L0 (fun c => c < j) yv' (¬ ch = 0) → wY_live_31 post J fl (nI n) (nI k) ym yr yb yl m ch (nI j) sz op rs fi se kd us f1 f2 yv' nd ru eg yg nw yo yw := by
    intro J L0 hJ m
    induction m with
    | zero => intro j ch yv' _ h; omega
    | succ m ih =>
      intro j ch yv' hj hmm hch hi
      by_cases e : j = n
      · have e' := e.symm
        subst e'
        exact br_t (Int32.le_refl _) (hJ ch yv' hch hi)
      · have c : (nI j).toNatClampNeg = j := nI_clamp (by omega)
        have vi : vp_in (nI j) 16 := vp_in_nI (by omega) (by omega)
        have nx : ∀ ch' : Int32, (ch' = 0 ∨ ch' = 1) → (¬ ch' = 0 ↔ ¬ ch = 0 ∨ ¬ W yv' j = yv' j) → ∀ y, y = upd yv' (nI j).toNatClampNeg (W yv' j) → wY_live_31 post J fl (nI n) (nI k) ym yr yb yl m ch' (nI (j + 1)) sz op rs fi se kd us f1 f2 y nd ru eg yg nw yo yw := by
          intro ch' h1 h2 y ey
          rw [c] at ey
          subst ey
          refine ih (j + 1) ch' _ (by omega) (by omega) h1 (fl_in1 hm hi (by omega) (fun d hd _ => ?_) h2)
          omega
        refine br_f (nI_ge (by omega) (by omega)) (hW yv' j (by omega) _ ⟨vi, ?_⟩)
        by_cases q : W yv' j = yv' j
        · refine br_t (by rw [c]; exact q) ⟨vi, fun y ey => nm_r (nI_1 j) (nx ch hch ⟨fun w => Or.inl w, fun w => w.elim id (fun y => absurd q y)⟩ y ey)⟩
        · refine br_f (by rw [c]; exact q) ⟨vi, fun y ey => nm_r (nI_1 j) (nx 1 (Or.inr rfl) ⟨fun _ => Or.inr q, fun _ => by decide⟩ y ey)⟩
  have L1 : ∀ m yv', 514 - fl_su yv' n < m → fl_lo n W yv' → fl_up n W yv' → wY_live_23 post fl (nI n) (nI k) ym yr yb yl m 1 sz op rs fi se kd us f1 f2 yv' nd ru eg yg nw yo yw := by
    intro m
    induction m with
    | zero => intro yv' h; omega
    | succ m ih =>
      intro yv' hmm h1 h2
      have hb := fl_su_b yv' n
      refine br_f (by decide) ⟨n + 1, L2 _ yv' (fun ch lv2 hch hi => ?_) (n + 1) 0 0 yv' (by omega) (by omega) (Or.inl rfl) (fl_in0 h1 h2 (fun z => z rfl) (fun b hb z => by omega))⟩
      rcases hch with e | e
      · subst e
        cases m with
        | zero => omega
        | succ m => exact br_t rfl (hp lv2 (fl_in2 hi (fun z => z rfl) (fun b hb => hb)))
      · subst e
        have h3 := hi.2.2.2.1 (by decide)
        exact ih lv2 (by omega) hi.1 hi.2.1
  have L0 : ∀ m x yv', x ≤ 16 → 16 - x < m → (∀ z, z < x → yv' z = 0) → wY_live_2 post fl (nI n) (nI k) ym yr yb yl m (nI x) sz op rs fi se kd us f1 f2 yv' nd ru eg yg nw yo yw := by
    intro m
    induction m with
    | zero => intro x yv' _ h; omega
    | succ m ih =>
      intro x yv' hx hmm hi
      by_cases e : x = 16
      · subst e
        have h := fl_00 (n := n) (W := W) (L := yv') (fun b hb => hi b (by omega))
        exact br_t (by decide) ⟨515, L1 515 yv' (by omega) h.1 h.2⟩
      · have c : (nI x).toNatClampNeg = x := nI_clamp (by omega)
        refine br_f (nI_ge (b := 16) (by omega) (by decide)) ⟨vp_in_nI (by omega) (by omega), ?_⟩
        intro y ey
        rw [c] at ey
        subst ey
        refine nm_r (nI_1 x) (ih (x + 1) _ (by omega) (by omega) (fun z hz => ?_))
        by_cases ez : z = x
        · rw [ez, pk_us]
        · rw [pk_un ez]; exact hi z (by omega)
  exact ⟨17, L0 17 0 yv (by omega) (by omega) (fun z hz => absurd hz (Nat.not_lt_zero z))⟩
theorem ys_lvs (ok : fe_ok n kd th el) (hv : fe_ev n kd ev) (rl : fe_rl n kd ev th el us f1 f2) (is : fe_is n sz op rs fi se) {post : Int32 → SY → Prop} {v1 : Int32} (h0 : (∀ j, j < n → ¬ v1 = nI j) → post (-1) ((nI n), (nI k), ym, yr, yb, yl, sz, op, rs, fi, se, kd, us, f1, f2, yv, nd, ru, eg, yg, nw, yo, yw))
    (h1 : ∀ b, b < n → v1 = nI b → ∀ yv', fl_ls n (fe_WA sz kd ev th el op rs fi se) yv' → post (yv' b) ((nI n), (nI k), ym, yr, yb, yl, sz, op, rs, fi, se, kd, us, f1, f2, yv', nd, ru, eg, yg, nw, yo, yw)) : wpY_lives post ((nI n), (nI k), ym, yr, yb, yl, sz, op, rs, fi, se, kd, us, f1, f2, yv, nd, ru, eg, yg, nw, yo, yw) v1 := by
  unfold wpY_lives
  have hn := ok.1
  refine ys_out n (by omega) (fun z => br_f (by decide) (h0 z)) (fun b hlb eb => br_t rfl ?_)
  refine ys_slv hn (W := fe_WA sz kd ev th el op rs fi se) (fe_WAm ok hv) (fun yv' x hx post hp => ?_) (fun yv' hl => ?_)
  · obtain ⟨s, hs, es, cs, hin⟩ := fe_ix is hx
    unfold fe_WA at hp
    rw [cs] at hp
    exact ys_bef ok hv rl (p := 0) hx es hs hin (Nat.zero_le _) (Or.inl ⟨rfl, fun i w => rfl⟩) hp
  · subst eb
    have c : (nI b).toNatClampNeg = b := nI_clamp (by omega)
    refine ⟨vp_in_nI (by omega) (by omega), ?_⟩
    rw [c]
    exact h1 b hlb rfl yv' hl
end
