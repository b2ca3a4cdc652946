theorem xs_t {b : Bool} (h : ¬ b = false) : b = true := by
  cases b
  · exact absurd rfl h
  · rfl
theorem xs_has {post : Int32 → Prop} {s : Int32} {i : Nat} (hi : i < 32) (h0 : ¬ bt s i = true → post 0) (h1 : bt s i = true → post 1) : wpX_has post s (nI i) := by
  by_cases z : bt s i = false
  · exact br_t ((fa_t s hi).mpr z) (h0 (by rw [z]; exact Bool.false_ne_true))
  · exact br_f (fun q => z ((fa_t s hi).mp q)) (h1 (xs_t z))
section
variable {n k : Nat} {me ob ot oe it lr lb la : Int32} {sz kd ev th el op rs fi se dm fr lv va : Nat → Int32} {bg en : Nat → Int64}
theorem xs_isB (hn : n ≤ 16) {post : Int32 → Prop} {b : Int32} (h0 : (∀ j, j < n → ¬ b = nI j) → post 0) (h1 : ∀ j, j < n → b = nI j → post 1) : wpX_isBlock post ((nI n), (nI k), me, ob, ot, oe, it, lr, lb, la, sz, kd, ev, th, el, op, rs, fi, se, dm, fr, lv, bg, en, va) b := by
  rcases pk_ix b (n := n) (by omega) with h | h | ⟨j, hj, e⟩
  · refine br_t h (h0 (fun j hj e => ?_))
    rw [e] at h
    exact nI_pos (by omega) h
  · have h2 : ¬ b < 0 := fun z => by
      have := Int32.lt_of_le_of_lt h z
      exact nI_pos (n := n) (by omega) this
    refine br_f h2 (br_t h (h0 (fun j hj e => ?_)))
    rw [e] at h
    exact nI_ge hj (by omega) h
  · subst e
    exact br_f (nI_pos (by omega)) (br_f (nI_ge hj (by omega)) (h1 j hj rfl))
/-- the bits that the exits of block j add -/
theorem xs_e1 {f : Int32} {j t : Nat} (hj : j < n) (k1 : kd j = 1) (e : th j = nI t) (ht : t < 16) {set : Int32} (hs : bt set j = true) (i : Nat) :
    bt (f ||| ((1 : Int32) <<< (nI t &&& 31))) i = true ↔ (bt f i = true ∨ (bt set j = true ∧ (fe_E n kd th el) j i)) := by
  rw [sl_or, sl_sg (by omega), fe_E1 hj k1 e ht]
  exact ⟨fun z => z.imp id (fun y => ⟨hs, y⟩), fun z => z.imp id (fun y => y.2)⟩
theorem xs_e2 {f : Int32} {j t t' : Nat} (hj : j < n) (k1 : kd j = 2) (e : th j = nI t) (ht : t < 16) (e' : el j = nI t') (ht' : t' < 16) {set : Int32} (hs : bt set j = true) (i : Nat) :
    bt ((f ||| ((1 : Int32) <<< (nI t &&& 31))) ||| ((1 : Int32) <<< (nI t' &&& 31))) i = true ↔ (bt f i = true ∨ (bt set j = true ∧ (fe_E n kd th el) j i)) := by
  rw [sl_or, sl_or, sl_sg (by omega), sl_sg (by omega), fe_E2 hj k1 e ht e' ht', or_assoc]
  exact ⟨fun z => z.imp id (fun y => ⟨hs, y⟩), fun z => z.imp id (fun y => y.2)⟩
theorem xs_suc (ok : fe_ok n kd th el) {post : Int32 → Prop} {set : Int32} (hp : ∀ r, (∀ i, bt r i = true ↔ ∃ x, bt set x = true ∧ (fe_E n kd th el) x i) → post r) : wpX_successorsOf post ((nI n), (nI k), me, ob, ot, oe, it, lr, lb, la, sz, kd, ev, th, el, op, rs, fi, se, dm, fr, lv, bg, en, va) set := by
  have hn := ok.1
  have L : ∀ m j f, j ≤ n → n - j < m → sl_in (fun _ => False) (fun x i => bt set x = true ∧ (fe_E n kd th el) x i) j f → wX_successorsOf_4 post set (nI n) (nI k) me ob ot oe it lr lb la sz kd ev th el op rs fi se dm fr lv bg en va m f (nI j) := by
    intro m
    induction m with
    | zero => intro j f _ h; omega
    | succ m ih =>
      intro j f hj hm hi
      by_cases e : j = n
      · subst e
        refine br_t (Int32.le_refl _) (hp f ?_)
        intro i
        rw [sl_e hi (fun x i g => g.2.1)]
        exact ⟨fun z => z.elim False.elim id, Or.inr⟩
      · have hj' : j < n := by omega
        have c : (nI j).toNatClampNeg = j := nI_clamp (by omega)
        have vi : vp_in (nI j) 16 := vp_in_nI (by omega) (by omega)
        refine br_f (nI_ge hj' (by omega)) (xs_has (by omega) (fun z => br_t rfl (nm_r (nI_1 j) ?_)) (fun z => br_f (by decide) ⟨vi, ?_⟩))
        · exact ih (j + 1) f (by omega) (by omega) (sl_n hi (fun i g => z g.1))
        · refine fe_cs ok hj' (fun k0 => ?_) (fun t k1 _ ht e1 => ?_) (fun t t' k2 _ ht e1 _ ht' e2 => ?_)
          · refine br_t (by rw [c]; exact k0) ⟨vi, br_f (by rw [c, k0]; decide) (nm_r (nI_1 j) ?_)⟩
            exact ih (j + 1) f (by omega) (by omega) (sl_n hi (fun i g => fe_E0 hj' k0 g.2))
          · refine br_f (by rw [c, k1]; decide) ⟨vi, ?_⟩
            intro y ey
            rw [c, e1] at ey
            subst ey
            refine ⟨vi, br_f (by rw [c, k1]; decide) (nm_r (nI_1 j) ?_)⟩
            exact ih (j + 1) _ (by omega) (by omega) (sl_1 hi (xs_e1 hj' k1 e1 (by omega) z))
          · refine br_f (by rw [c, k2]; decide) ⟨vi, ?_⟩
            intro y ey
            rw [c, e1] at ey
            subst ey
            refine ⟨vi, br_t (by rw [c]; exact k2) ⟨vi, ?_⟩⟩
            intro y ey
            rw [c, e2] at ey
            subst ey
            refine nm_r (nI_1 j) ?_
            exact ih (j + 1) _ (by omega) (by omega) (sl_1 hi (xs_e2 hj' k2 e1 (by omega) e2 (by omega) z))
  exact ⟨n + 1, L (n + 1) 0 0 (by omega) (by omega) (sl_00 (fun _ z => z))⟩
theorem xs_rea (ok : fe_ok n kd th el) {post : Int32 → Prop} {avs : Int32} {av : Nat → Prop} (ha : ∀ i, bt avs i = true ↔ av i)
    (hp : ∀ r, (∀ i, bt r i = true ↔ fr_R (fe_E n kd th el) (fe_st n) av i) → post r) : wpX_reachedWithout post ((nI n), (nI k), me, ob, ot, oe, it, lr, lb, la, sz, kd, ev, th, el, op, rs, fi, se, dm, fr, lv, bg, en, va) avs := by
  have hn := ok.1
  have hE := fe_E16 ok
  have L : ∀ m j s, j ≤ 16 → 16 - j < m → fr_so (fe_E n kd th el) (fe_st n) av s → fr_sr (fe_st n) av s → (fr_cl (fe_E n kd th el) av s ∨ j ≤ fa_cn (bt s) 16) → wX_reachedWithout_17 post avs (nI n) (nI k) me ob ot oe it lr lb la sz kd ev th el op rs fi se dm fr lv bg en va m s (nI j) := by
    intro m
    induction m with
    | zero => intro j f _ h; omega
    | succ m ih =>
      intro j s hj hm h1 h2 h3
      by_cases e : j = 16
      · subst e
        exact br_t (by decide) (hp s (fr_fi h1 h2 (fr_end hE h3)))
      · refine br_f (nI_ge (b := 16) (by omega) (by decide)) (xs_suc ok (fun r hr => ?_))
        intro y ey
        have hr2 : fr_rd (fe_E n kd th el) av s y := by
          intro i
          rw [ey, sl_or, sl_df, hr i, ha i]
        refine nm_r (nI_1 j) (ih (j + 1) y (by omega) (by omega) (fr_so1 hr2 h1) (fr_sr1 hr2 h2) (fr_rdk hE hr2 h3))
  by_cases e : n = 0
  · subst e
    refine br_t rfl (hp 0 (fun i => ⟨fun z => absurd z (sl_no i), fun z => ?_⟩))
    exact absurd (fr_i (P := fun _ => False) (fun x h _ => absurd h.2 (Nat.lt_irrefl 0)) (fun _ _ _ p _ _ => p) z) id
  · refine br_f (nI_ne0 (by omega) (by omega)) ?_
    intro y ey
    have hy : ∀ i, bt y i = true ↔ (i = 0 ∧ ¬ av i) := by
      intro i
      rw [ey, sl_df, sl_b1, ha i]
    refine ⟨17, L 17 0 y (by omega) (by omega) ?_ ?_ (Or.inr (Nat.zero_le _))⟩
    · intro i hi
      have := (hy i).mp hi
      exact fr_b ⟨this.1, by omega⟩ this.2
    · intro x hx na
      exact (hy x).mpr ⟨hx.1, na⟩
theorem xs_fro (ok : fe_ok n kd th el) {post : Int32 → Prop} {a : Nat} (ha : a < 16) (hp : ∀ r, (∀ i, bt r i = true ↔ ((∃ x, bt (dm a) x = true ∧ (fe_E n kd th el) x i) ∧ ¬ (bt (dm a) i = true ∧ ¬ i = a))) → post r) : wpX_frontierOf post ((nI n), (nI k), me, ob, ot, oe, it, lr, lb, la, sz, kd, ev, th, el, op, rs, fi, se, dm, fr, lv, bg, en, va) (nI a) := by
  have c : (nI a).toNatClampNeg = a := nI_clamp (by omega)
  have vi : vp_in (nI a) 16 := vp_in_nI (by omega) (by omega)
  refine ⟨vi, xs_suc ok (fun r hr => ⟨vi, ?_⟩)⟩
  intro y ey
  apply hp
  intro i
  rw [c] at ey hr
  rw [sl_df, ey, sl_df, sl_sg (by omega), hr i]
end
/-- MET, DOMINATES and the frontiers, as the class holds them -/
def xs_dom (n : Nat) (kd th el : Nat → Int32) (me : Int32) (dm fr : Nat → Int32) : Prop :=
  (∀ i, bt me i = true ↔ fd_M (fe_E n kd th el) (fe_st n) i) ∧ (∀ x, x < 16 → ∀ i, bt (dm x) i = true ↔ fd_D (fe_E n kd th el) (fe_st n) x i) ∧ (∀ x, x < 16 → ∀ i, bt (fr x) i = true ↔ fd_F (fe_E n kd th el) (fe_st n) x i)
section
variable {n k : Nat} {me ob ot oe it lr lb la : Int32} {sz kd ev th el op rs fi se dm fr lv va : Nat → Int32} {bg en : Nat → Int64}
theorem xs_d57 (ok : fe_ok n kd th el) {post : SX → Prop} {J : Int32 → (Nat → Int32) → (Nat → Int32) → (Nat → Int32) → (Nat → Int32) → (Nat → Int32) → (Nat → Int32) → (Nat → Int32) → (Nat → Int32) → (Nat → Int32) → (Nat → Int32) → (Nat → Int32) → (Nat → Int32) → (Nat → Int64) → (Nat → Int64) → (Nat → Int32) → Prop} {a : Nat} (ha : a < 16)
    (hd : ∀ i, bt (dm a) i = true ↔ fd_D (fe_E n kd th el) (fe_st n) a i)
    (hp : ∀ r, (∀ i, bt r i = true ↔ fd_F (fe_E n kd th el) (fe_st n) a i) → J (nI (a + 1)) sz kd ev th el op rs fi se dm (upd fr a r) lv bg en va) : wX_solveDominance_57 post J (nI a) (nI n) (nI k) me ob ot oe it lr lb la sz kd ev th el op rs fi se dm fr lv bg en va := by
  have c : (nI a).toNatClampNeg = a := nI_clamp (by omega)
  have vi : vp_in (nI a) 16 := vp_in_nI (by omega) (by omega)
  refine xs_fro ok ha (fun r hr => ⟨vi, ?_⟩)
  intro y ey
  rw [c] at ey
  subst ey
  refine nm_r (nI_1 a) (hp r (fun i => ?_))
  rw [hr i]
  unfold fd_F
  refine and_congr ⟨fun ⟨x, h1, h2⟩ => ⟨x, (hd x).mp h1, h2⟩, fun ⟨x, h1, h2⟩ => ⟨x, (hd x).mpr h1, h2⟩⟩ (not_congr ?_)
  rw [hd i]
  exact ⟨fun z => ⟨z.2, z.1⟩, fun z => ⟨z.2, z.1⟩⟩
theorem xs_sol (ok : fe_ok n kd th el) {post : SX → Prop} (hp : ∀ me' dm' fr', xs_dom n kd th el me' dm' fr' → post ((nI n), (nI k), me', ob, ot, oe, it, lr, lb, la, sz, kd, ev, th, el, op, rs, fi, se, dm', fr', lv, bg, en, va)) : wpX_solveDominance post ((nI n), (nI k), me, ob, ot, oe, it, lr, lb, la, sz, kd, ev, th, el, op, rs, fi, se, dm, fr, lv, bg, en, va) := by
  unfold wpX_solveDominance
  refine xs_rea ok (av := fun _ => False) (fun i => ⟨fun z => absurd z (sl_no i), False.elim⟩) (fun me' hm => ?_)
  have L : ∀ m a dm' fr', a ≤ 16 → 16 - a < m → (∀ x, x < a → ∀ i, bt (dm' x) i = true ↔ fd_D (fe_E n kd th el) (fe_st n) x i) → (∀ x, x < a → ∀ i, bt (fr' x) i = true ↔ fd_F (fe_E n kd th el) (fe_st n) x i) →
      wX_solveDominance_11 post (nI n) (nI k) me' ob ot oe it lr lb la m (nI a) sz kd ev th el op rs fi se dm' fr' lv bg en va := by
    intro m
    induction m with
    | zero => intro j f _ _ h; omega
    | succ m ih =>
      intro a dm' fr' hj hmm h1 h2
      by_cases e : a = 16
      · subst e
        exact br_t (by decide) (hp me' dm' fr' ⟨hm, h1, h2⟩)
      · have ha : a < 16 := by omega
        have c : (nI a).toNatClampNeg = a := nI_clamp (by omega)
        have vi : vp_in (nI a) 16 := vp_in_nI (by omega) (by omega)
        have key : ∀ w : Int32, (∀ i, bt w i = true ↔ fd_D (fe_E n kd th el) (fe_st n) a i) → ∀ dm2, dm2 = upd (upd dm' a 0) a w ∨ dm2 = upd dm' a w →
            wX_solveDominance_57 post (wX_solveDominance_11 post (nI n) (nI k) me' ob ot oe it lr lb la m) (nI a) (nI n) (nI k) me' ob ot oe it lr lb la sz kd ev th el op rs fi se dm2 fr' lv bg en va := by
          intro w hw dm2 e2
          have e3 : dm2 a = w := by rcases e2 with e2 | e2 <;> rw [e2, pk_us]
          have e4 : ∀ x, x < a → dm2 x = dm' x := by
            intro x hx
            rcases e2 with e2 | e2
            · rw [e2, pk_un (by omega), pk_un (by omega)]
            · rw [e2, pk_un (by omega)]
          refine xs_d57 ok ha (fun i => by rw [e3]; exact hw i) (fun r hr => ?_)
          refine ih (a + 1) dm2 (upd fr' a r) (by omega) (by omega) ?_ ?_
          · intro x hx i
            by_cases ex : x = a
            · subst ex; rw [e3]; exact hw i
            · rw [e4 x (by omega)]; exact h1 x (by omega) i
          · intro x hx i
            by_cases ex : x = a
            · subst ex; rw [pk_us]; exact hr i
            · rw [pk_un ex]; exact h2 x (by omega) i
        refine br_f (nI_ge (b := 16) (by omega) (by decide)) ⟨vi, ?_⟩
        intro y ey
        rw [c] at ey
        subst ey
        refine xs_has (by omega) (fun z => br_t rfl ?_) (fun z => br_f (by decide) ?_)
        · refine key 0 (fun i => ⟨fun q => absurd q (sl_no i), fun q => absurd ((hm a).mpr q.1) z⟩) _ (Or.inr rfl)
        · refine xs_rea ok (av := fun x => x = a) (sl_sg (by omega)) (fun r hr => ⟨vi, ?_⟩)
          intro y ey
          rw [c] at ey
          refine key (me' &&& (r ^^^ (-1))) (fun i => ?_) _ (Or.inl ey)
          rw [sl_df, hm i, hr i]
          exact ⟨fun q => ⟨(hm a).mp z, q.1, q.2⟩, fun q => ⟨q.2.1, q.2.2⟩⟩
  exact ⟨17, L 17 0 dm fr (by omega) (by omega) (fun x hx => absurd hx (Nat.not_lt_zero x)) (fun x hx => absurd hx (Nat.not_lt_zero x))⟩
end
