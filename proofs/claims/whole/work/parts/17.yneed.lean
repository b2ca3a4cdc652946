section
variable {n k : Nat} {ym yr yb yl : Int32} {sz kd ev th el op rs fi se us f1 f2 yv nd ru eg yo yw : Nat → Int32} {yg nw : Nat → Int64}
theorem fe_x0 (ok : fe_ok n kd th el) (hv : fe_ev n kd ev) : ∀ L M b, b < n → fl_le n L M → fa_sb (fe_x kd ev th el L b) (fe_x kd ev th el M b) :=
  fun _ _ _ hb h => fe_xm ok hv hb (fun y e => h y (fe_El ok e))
theorem fe_x1 (ok : fe_ok n kd th el) (hv : fe_ev n kd ev) : ∀ L M b, b < n → fd_M (fe_E n kd th el) (fe_st n) b → (∀ c, c < n → fd_M (fe_E n kd th el) (fe_st n) c → fa_sb (L c) (M c)) → fa_sb (fe_x kd ev th el L b) (fe_x kd ev th el M b) :=
  fun _ _ _ hb mb h => fe_xm ok hv hb (fun y e => h y (fe_El ok e) (fd_Ms mb e))
theorem fe_WNm (ok : fe_ok n kd th el) (hv : fe_ev n kd ev) (N : Nat → Int32) : fl_mo n (fn_WN (fe_m rs) (fe_us op fi se) (fun x => (sz x).toNatClampNeg) (fe_x kd ev th el) N) := by
  intro L M hL x hx
  exact fw_mo (fe_x0 ok hv L M x hx hL) _ (fun i _ z => fn_Nm (fa_sb_r _) z)
/-- the last round: nothing new -/
def ys_fin (n : Nat) (sz kd ev th el op rs fi se : Nat → Int32) (b : Nat) (r : Int32) : Prop :=
  ∃ N LY, fn_I (fe_d rs) (fe_m rs) (fe_us op fi se) (fun x => (sz x).toNatClampNeg) (fe_x kd ev th el) n (fd_M (fe_E n kd th el) (fe_st n)) N ∧
    fl_ls n (fn_WN (fe_m rs) (fe_us op fi se) (fun x => (sz x).toNatClampNeg) (fe_x kd ev th el) N) LY ∧
    (∀ x, x < n → fn_S (fe_d rs) (fe_m rs) (fe_us op fi se) (fun x => (sz x).toNatClampNeg) (fe_x kd ev th el) (fd_M (fe_E n kd th el) (fe_st n)) N LY x (N x)) ∧ r = N b
theorem ys_n54 (ok : fe_ok n kd th el) (hv : fe_ev n kd ev) (rl : fe_rl n kd ev th el us f1 f2) (is : fe_is n sz op rs fi se) (hd : ys_dom n kd th el ym ru) {N : Nat → Int32} {post : Int32 → SY → Prop}
    {J27 : Int32 → Int32 → Int32 → Int32 → Int32 → Int32 → Int32 → (Nat → Int32) → (Nat → Int32) → (Nat → Int32) → (Nat → Int32) → (Nat → Int32) → (Nat → Int32) → (Nat → Int32) → (Nat → Int32) → (Nat → Int32) → (Nat → Int32) → (Nat → Int32) → (Nat → Int32) → (Nat → Int32) → (Nat → Int64) → (Nat → Int64) → (Nat → Int32) → (Nat → Int32) → Prop}
    {J40 : Int32 → Int32 → (Nat → Int32) → (Nat → Int32) → (Nat → Int32) → (Nat → Int32) → (Nat → Int32) → (Nat → Int32) → (Nat → Int32) → (Nat → Int32) → (Nat → Int32) → (Nat → Int32) → (Nat → Int32) → (Nat → Int32) → (Nat → Int32) → (Nat → Int64) → (Nat → Int64) → (Nat → Int32) → (Nat → Int32) → Prop}
    {x1 x2 : Int32} {x : Nat} (hx : x < n) (eN : nd x = N x)
    (hJ : ∀ c, fn_S (fe_d rs) (fe_m rs) (fe_us op fi se) (fun x => (sz x).toNatClampNeg) (fe_x kd ev th el) (fd_M (fe_E n kd th el) (fe_st n)) N yv x c → ∀ ch : Int32, (c = N x → ch = x2) → (¬ c = N x → ch = 1) → J40 ch (nI (x + 1)) sz op rs fi se kd us f1 f2 yv (upd nd x (N x ||| c)) ru eg yg nw yo yw) :
    ∃ m, wY_needed_54 post J27 J40 x1 x2 (nI x) (nI n) (nI k) ym yr yb yl sz op rs fi se kd us f1 f2 yv nd ru eg yg nw yo yw m 0 0 := by
  have hn := ok.1
  obtain ⟨s, hs, es, cs, hin⟩ := fe_ix is hx
  have c : (nI x).toNatClampNeg = x := nI_clamp (by omega)
  have vi : vp_in (nI x) 16 := vp_in_nI (by omega) (by omega)
  have y135 : ∀ (c ch : Int32), fn_S (fe_d rs) (fe_m rs) (fe_us op fi se) (fun x => (sz x).toNatClampNeg) (fe_x kd ev th el) (fd_M (fe_E n kd th el) (fe_st n)) N yv x c → (c = N x → ch = x2) → (¬ c = N x → ch = 1) → wY_needed_135 post J27 J40 x1 ch (nI x) c (nI n) (nI k) ym yr yb yl sz op rs fi se kd us f1 f2 yv nd ru eg yg nw yo yw := by
    intro c' ch h1 h2 h3
    refine ⟨vi, vi, ?_⟩
    intro y ey
    rw [c, eN] at ey
    subst ey
    exact nm_r (nI_1 x) (hJ c' h1 ch h2 h3)
  have L : ∀ m j f, j ≤ s → s - j < m → sl_in (fun _ => False) (fun q i => i = q ∧ (q < s ∧ fd_M (fe_E n kd th el) (fe_st n) x ∧ bt (fw_d (fn_N (fe_m rs) (fe_us op fi se) N x) (fe_x kd ev th el yv x) s (s - 1 - q)) (fe_d rs x q) = true)) j f →
      wY_needed_54 post J27 J40 x1 x2 (nI x) (nI n) (nI k) ym yr yb yl sz op rs fi se kd us f1 f2 yv nd ru eg yg nw yo yw m f (nI j) := by
    intro m
    induction m with
    | zero => intro j f _ h; omega
    | succ m ih =>
      intro j f hj hm hi
      by_cases e : j = s
      · subst e
        have hS : fn_S (fe_d rs) (fe_m rs) (fe_us op fi se) (fun x => (sz x).toNatClampNeg) (fe_x kd ev th el) (fd_M (fe_E n kd th el) (fe_st n)) N yv x f := by
          intro i
          rw [sl_e hi (fun q i g => g.2.1)]
          dsimp only
          rw [cs]
          exact ⟨fun z => z.elim False.elim (fun ⟨q, g1, g2⟩ => by rw [g1]; exact g2), fun z => Or.inr ⟨i, rfl, z⟩⟩
        refine ⟨vi, br_t (by rw [c, es]; exact Int32.le_refl _) ⟨vi, ?_⟩⟩
        by_cases q : f = N x
        · exact br_t (by rw [c, eN]; exact q) (y135 f x2 hS (fun _ => rfl) (fun z => absurd q z))
        · exact br_f (by rw [c, eN]; exact q) (y135 f 1 hS (fun z => absurd z q) (fun _ => rfl))
      · obtain ⟨hcl, v, hv2, ev2⟩ := hin j (by omega)
        clear hcl
        have cd : fe_d rs x j = v := by unfold fe_d; rw [ev2, nI_clamp (by omega)]
        have e4 : (4 : Int32) * nI x + nI j = nI (4 * x + j) := by rw [ys_4, nI_add]
        have c4 : (nI (4 * x + j)).toNatClampNeg = 4 * x + j := nI_clamp (by omega)
        refine ⟨vi, br_f (by rw [c, es]; exact nI_ge (by omega) (by omega)) ?_⟩
        rw [nI_1 j]
        refine ys_bef ok hv rl (p := j + 1) (f := fn_N (fe_m rs) (fe_us op fi se) N x) hx es hs hin (by omega) (Or.inr ⟨rfl, fun i w => ?_⟩) ⟨by rw [e4]; exact vp_in_nI (by omega) (by omega), ?_⟩
        · unfold fn_N
          rw [eN]
        · rw [e4, c4, ev2]
          have e0 : s - 1 - j = s - (j + 1) := by omega
          refine ys_has (by omega) (fun z => nm_r rfl (ih (j + 1) f (by omega) (by omega) (sl_n hi (fun i g => ?_)))) (fun z => ?_)
          · have g3 := g.2.2.2
            rw [e0, cd] at g3
            exact z g3
          · refine ys_has (by omega) (fun w => nm_r rfl (ih (j + 1) f (by omega) (by omega) (sl_n hi (fun i g => w ((hd.1 x).mpr g.2.2.1))))) (fun w => ?_)
            intro y ey
            refine nm_r rfl (ih (j + 1) y (by omega) (by omega) (sl_1 hi (fun i => ?_)))
            rw [ey, sl_or, sl_sg (by omega)]
            refine or_congr Iff.rfl ⟨fun g => ⟨g, by omega, (hd.1 x).mp w, ?_⟩, fun g => g.1⟩
            rw [e0, cd]
            exact z
  exact ⟨s + 1, L (s + 1) 0 0 (by omega) (by omega) (sl_00 (fun _ z => z))⟩
theorem ys_ndd (ok : fe_ok n kd th el) (hv : fe_ev n kd ev) (rl : fe_rl n kd ev th el us f1 f2) (is : fe_is n sz op rs fi se) {post : Int32 → SY → Prop} {v1 : Int32}
    (h0 : ∀ ym' ru' nd' yv', (∀ j, j < n → ¬ v1 = nI j) → post 0 ((nI n), (nI k), ym', yr, yb, yl, sz, op, rs, fi, se, kd, us, f1, f2, yv', nd', ru', eg, yg, nw, yo, yw))
    (h1 : ∀ b, b < n → v1 = nI b → ∀ r ym' ru' nd' yv', ys_fin n sz kd ev th el op rs fi se b r → post r ((nI n), (nI k), ym', yr, yb, yl, sz, op, rs, fi, se, kd, us, f1, f2, yv', nd', ru', eg, yg, nw, yo, yw)) : wpY_needed post ((nI n), (nI k), ym, yr, yb, yl, sz, op, rs, fi, se, kd, us, f1, f2, yv, nd, ru, eg, yg, nw, yo, yw) v1 := by
  unfold wpY_needed
  have hn := ok.1
  refine ys_lok ok rl (fun ym' ru' hd => ?_)
  have L1 : ∀ m N yv0, 514 - fl_su N n < m → fn_I (fe_d rs) (fe_m rs) (fe_us op fi se) (fun x => (sz x).toNatClampNeg) (fe_x kd ev th el) n (fd_M (fe_E n kd th el) (fe_st n)) N →
      wY_needed_27 post v1 m 1 (nI n) (nI k) ym' yr yb yl sz op rs fi se kd us f1 f2 yv0 N ru' eg yg nw yo yw := by
    intro m
    induction m with
    | zero => intro N yv0 h; omega
    | succ m ih =>
      intro N yv0 hmm hI
      have hb := fl_su_b N n
      refine br_f (by decide) ?_
      refine ys_slv hn (W := fn_WN (fe_m rs) (fe_us op fi se) (fun x => (sz x).toNatClampNeg) (fe_x kd ev th el) N) (fe_WNm ok hv N) (fun yv' x hx post hp => ?_) (fun LY hY => ?_)
      · obtain ⟨s, hs, es, cs, hin⟩ := fe_ix is hx
        unfold fn_WN at hp
        dsimp only at hp
        rw [cs] at hp
        exact ys_bef ok hv rl (p := 0) hx es hs hin (Nat.zero_le _) (Or.inr ⟨rfl, fun i w => rfl⟩) hp
      · have hgr : ∀ x, x < n → ∀ c, fn_S (fe_d rs) (fe_m rs) (fe_us op fi se) (fun x => (sz x).toNatClampNeg) (fe_x kd ev th el) (fd_M (fe_E n kd th el) (fe_st n)) N LY x c → N x ||| c = c := by
          intro x hx c hc
          apply fa_ext
          intro i
          rw [sl_or]
          exact ⟨fun z => z.elim (hI.1 LY hY x hx c hc i) id, Or.inr⟩
        have L2 : ∀ q j ch N', j ≤ n → n - j < q → (∀ y, y < j → fn_S (fe_d rs) (fe_m rs) (fe_us op fi se) (fun x => (sz x).toNatClampNeg) (fe_x kd ev th el) (fd_M (fe_E n kd th el) (fe_st n)) N LY y (N' y)) → (∀ y, j ≤ y → N' y = N y) →
            ((ch = 0 ∧ ∀ y, y < j → N' y = N y) ∨ (ch = 1 ∧ ∃ y, y < j ∧ ¬ N' y = N y)) →
            wY_needed_40 post (wY_needed_27 post v1 m) v1 (nI n) (nI k) ym' yr yb yl q ch (nI j) sz op rs fi se kd us f1 f2 LY N' ru' eg yg nw yo yw := by
          intro q
          induction q with
          | zero => intro j ch N' _ h; omega
          | succ q ihq =>
            intro j ch N' hj hq hS hU hch
            by_cases e : j = n
            · have e' := e.symm
              subst e'
              refine br_t (Int32.le_refl _) ?_
              rcases hch with ⟨ec, hc⟩ | ⟨ec, y, hy, hc⟩
              · subst ec
                cases m with
                | zero => omega
                | succ m =>
                  refine br_t rfl (ys_out n (by omega) (fun z => br_f (by decide) (h0 ym' ru' N' LY z)) (fun b hlb eb => br_t rfl ?_))
                  subst eb
                  have c : (nI b).toNatClampNeg = b := nI_clamp (by omega)
                  refine ⟨vp_in_nI (by omega) (by omega), ?_⟩
                  rw [c]
                  refine h1 b hlb rfl _ ym' ru' N' LY ⟨N, LY, hI, hY, fun x hx => ?_, hc b hlb⟩
                  rw [← hc x hx]
                  exact hS x hx
              · subst ec
                have hle : fl_le n N N' := fun x hx => hI.1 LY hY x hx _ (hS x hx)
                have h3 := fl_su_l hc n hy hle
                exact ih N' LY (by omega) (fn_I1 (fe_x0 ok hv) (fe_x1 ok hv) hI hY hS)
            · refine br_f (nI_ge (by omega) (by omega)) ?_
              refine ys_n54 ok hv rl is hd (N := N) (by omega) (hU j (Nat.le_refl _)) (fun c hc ch' h2 h3 => ?_)
              refine ihq (j + 1) ch' _ (by omega) (by omega) ?_ ?_ ?_
              · intro y hy
                by_cases ey : y = j
                · subst ey
                  rw [pk_us, hgr y (by omega) c hc]
                  exact hc
                · rw [pk_un ey]
                  exact hS y (by omega)
              · intro y hy
                rw [pk_un (by omega)]
                exact hU y (by omega)
              · by_cases z : c = N j
                · rw [h2 z]
                  rcases hch with ⟨ec, hc2⟩ | ⟨ec, y, hy, hc2⟩
                  · refine Or.inl ⟨ec, fun y hy => ?_⟩
                    by_cases ey : y = j
                    · subst ey
                      rw [pk_us, hgr y (by omega) c hc]
                      exact z
                    · rw [pk_un ey]
                      exact hc2 y (by omega)
                  · refine Or.inr ⟨ec, y, by omega, ?_⟩
                    rw [pk_un (by omega)]
                    exact hc2
                · refine Or.inr ⟨h3 z, j, by omega, ?_⟩
                  rw [pk_us, hgr j (by omega) c hc]
                  exact z
        exact ⟨n + 1, L2 (n + 1) 0 0 N (by omega) (by omega) (fun y hy => absurd hy (Nat.not_lt_zero y)) (fun y _ => rfl) (Or.inl ⟨rfl, fun y hy => absurd hy (Nat.not_lt_zero y)⟩)⟩
  have L0 : ∀ m x nd', x ≤ 16 → 16 - x < m → (∀ z, z < x → nd' z = 0) → wY_needed_6 post v1 (nI n) (nI k) ym' yr yb yl m (nI x) sz op rs fi se kd us f1 f2 yv nd' ru' eg yg nw yo yw := by
    intro m
    induction m with
    | zero => intro x nd' _ h; omega
    | succ m ih =>
      intro x nd' hx hmm hi
      by_cases e : x = 16
      · subst e
        exact br_t (by decide) ⟨515, L1 515 nd' yv (by omega) (fn_I0 (fun z hz => hi z (by omega)))⟩
      · have c : (nI x).toNatClampNeg = x := nI_clamp (by omega)
        refine br_f (nI_ge (b := 16) (by omega) (by decide)) ⟨vp_in_nI (by omega) (by omega), ?_⟩
        intro y ey
        rw [c] at ey
        subst ey
        refine nm_r (nI_1 x) (ih (x + 1) _ (by omega) (by omega) (fun z hz => ?_))
        by_cases ez : z = x
        · rw [ez, pk_us]
        · rw [pk_un ez]; exact hi z (by omega)
  exact ⟨17, L0 17 0 nd (by omega) (by omega) (fun z hz => absurd hz (Nat.not_lt_zero z))⟩
end
