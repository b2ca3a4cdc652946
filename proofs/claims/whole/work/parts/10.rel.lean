/-- what a program is, and what the two sides hold of it -/
def fi_G (n k : Nat) (sz kd ev th el op rs fi se us f1 f2 : Nat → Int32) : Prop :=
  n ≤ 16 ∧ k ≤ 3 ∧ fe_ok n kd th el ∧ fe_ev n kd ev ∧ fe_is n sz op rs fi se ∧ fe_rl n kd ev th el us f1 f2
section
variable {n k : Nat} {sz kd ev th el op rs fi se us f1 f2 : Nat → Int32}
theorem fi_0 : fi_G 0 0 sz kd ev th el op rs fi se us f1 f2 := by
  refine ⟨by omega, by omega, ⟨by omega, ?_⟩, ?_, ?_, ?_⟩
  · intro x hx; exact absurd hx (Nat.not_lt_zero x)
  · intro x hx; exact absurd hx (Nat.not_lt_zero x)
  · intro x hx; exact absurd hx (Nat.not_lt_zero x)
  · intro x hx; exact absurd hx (Nat.not_lt_zero x)
theorem fi_k {k' : Nat} (h : fi_G n k sz kd ev th el op rs fi se us f1 f2) (hk : k' ≤ 3) : fi_G n k' sz kd ev th el op rs fi se us f1 f2 :=
  ⟨h.1, hk, h.2.2⟩
theorem fi_b (h : fi_G n k sz kd ev th el op rs fi se us f1 f2) (hn : n < 16) :
    fi_G (n + 1) k (upd sz n 0) (upd kd n 0) (upd ev n 0) (upd th n 0) (upd el n 0) op rs fi se (upd us n 0) f1 f2 := by
  obtain ⟨_, hk, ⟨_, h1⟩, h2, h3, h4⟩ := h
  refine ⟨by omega, hk, ⟨by omega, ?_⟩, ?_, ?_, ?_⟩
  · intro x hx
    by_cases e : x = n
    · subst e
      rw [pk_us]
      exact ⟨Or.inl rfl, fun z => absurd rfl z, fun z => absurd z (by decide)⟩
    · rw [pk_un e, pk_un e, pk_un e]
      obtain ⟨a1, a2, a3⟩ := h1 x (by omega)
      refine ⟨a1, fun z => ?_, fun z => ?_⟩
      · obtain ⟨t, l, r, q⟩ := a2 z
        exact ⟨t, l, by omega, q⟩
      · obtain ⟨t, l, r, q⟩ := a3 z
        exact ⟨t, l, by omega, q⟩
  · intro x hx
    by_cases e : x = n
    · subst e
      rw [pk_us, pk_us]
      exact fun _ => ⟨0, by omega, rfl⟩
    · rw [pk_un e, pk_un e]
      exact h2 x (by omega)
  · intro x hx
    by_cases e : x = n
    · subst e
      rw [pk_us]
      exact ⟨0, by omega, rfl, fun i hi => absurd hi (Nat.not_lt_zero i)⟩
    · rw [pk_un e]
      exact h3 x (by omega)
  · intro x hx
    by_cases e : x = n
    · subst e
      rw [pk_us, pk_us, pk_us]
      exact ⟨fun z => absurd z (by decide), fun _ => rfl, fun z => absurd rfl z, fun z => absurd z (by decide)⟩
    · rw [pk_un e, pk_un e, pk_un e, pk_un e, pk_un e]
      exact h4 x (by omega)
theorem fi_a (h : fi_G n k sz kd ev th el op rs fi se us f1 f2) {b s : Nat} (hb : b < n) (hs : sz b = nI s) (hs4 : s < 4) {o d a c : Int32}
    (hi : (∃ w, w < 8 ∧ o = nI w ∧ (1 ≤ w → w ≤ 6 → ∃ v, v < 6 ∧ a = nI v) ∧ (2 ≤ w → w ≤ 6 → ∃ v, v < 6 ∧ c = nI v)) ∧ ∃ v, v < 6 ∧ d = nI v) :
    fi_G n k (upd sz b (nI (s + 1))) kd ev th el (upd op (4 * b + s) o) (upd rs (4 * b + s) d) (upd fi (4 * b + s) a) (upd se (4 * b + s) c) us f1 f2 := by
  obtain ⟨h0, hk, h1, h2, h3, h4⟩ := h
  refine ⟨h0, hk, h1, h2, ?_, h4⟩
  intro x hx
  obtain ⟨s', l, e, q⟩ := h3 x hx
  by_cases ex : x = b
  · subst ex
    have es : s' = s := (nI_eq (by omega) (by omega)).mp (e.symm.trans hs)
    subst es
    refine ⟨s' + 1, by omega, by rw [pk_us], fun i hi' => ?_⟩
    by_cases ei : i = s'
    · subst ei
      unfold fe_i1
      rw [pk_us, pk_us, pk_us, pk_us]
      exact hi
    · have ne : ¬ 4 * x + i = 4 * x + s' := by clear hi; omega
      have q' := q i (by clear hi; omega)
      unfold fe_i1 at q' ⊢
      rw [pk_un ne, pk_un ne, pk_un ne, pk_un ne]
      exact q'
  · refine ⟨s', l, by rw [pk_un ex]; exact e, fun i hi' => ?_⟩
    have ne : ¬ 4 * x + i = 4 * b + s := by clear hi; omega
    have q' := q i hi'
    unfold fe_i1 at q' ⊢
    rw [pk_un ne, pk_un ne, pk_un ne, pk_un ne]
    exact q'
theorem fi_x (h : fi_G n k sz kd ev th el op rs fi se us f1 f2) {b : Nat} (hb : b < n) {kk e1 t1 l1 u1 t e : Int32} (hk : kk = 0 ∨ kk = 1 ∨ kk = 2)
    (ht : ¬ kk = 0 → t1 = t ∧ ∃ w, 1 ≤ w ∧ w < n ∧ t = nI w) (he : kk = 2 → l1 = e ∧ ∃ w, 1 ≤ w ∧ w < n ∧ e = nI w)
    (hv : ¬ kk = 1 → u1 = e1 ∧ ∃ w, w < 6 ∧ e1 = nI w) (hu : kk = 1 → u1 = -1) :
    fi_G n k sz (upd kd b kk) (upd ev b e1) (upd th b t1) (upd el b l1) op rs fi se (upd us b u1) (upd f1 b t) (upd f2 b e) := by
  obtain ⟨h0, hk3, h1, h2, h3, h4⟩ := h
  refine ⟨h0, hk3, ⟨h0, ?_⟩, ?_, h3, ?_⟩
  · intro x hx
    by_cases ex : x = b
    · subst ex
      rw [pk_us, pk_us, pk_us]
      refine ⟨hk, fun z => ?_, fun z => ?_⟩
      · obtain ⟨q, w, l, r, y⟩ := ht z
        exact ⟨w, l, r, q.trans y⟩
      · obtain ⟨q, w, l, r, y⟩ := he z
        exact ⟨w, l, r, q.trans y⟩
    · rw [pk_un ex, pk_un ex, pk_un ex]
      exact h1.2 x hx
  · intro x hx
    by_cases ex : x = b
    · subst ex
      rw [pk_us, pk_us]
      exact fun z => (hv z).2
    · rw [pk_un ex, pk_un ex]
      exact h2 x hx
  · intro x hx
    by_cases ex : x = b
    · subst ex
      rw [pk_us, pk_us, pk_us, pk_us, pk_us, pk_us, pk_us]
      exact ⟨hu, fun z => (hv z).1, fun z => (ht z).1.symm, fun z => (he z).1.symm⟩
    · rw [pk_un ex, pk_un ex, pk_un ex, pk_un ex, pk_un ex, pk_un ex, pk_un ex]
      exact h4 x hx
end
/-- the relation: the same program, the same latest run; what either side works with is its own -/
def i_Rel (_ : Nat) (u : SX) (v : SY) : Prop :=
  ∃ (n k : Nat) (lr lb la me ob ot oe it ym : Int32) (sz kd ev th el op rs fi se us f1 f2 dm fr lv va yv nd ru eg yo yw : Nat → Int32) (bg en yg nw : Nat → Int64),
    u = ((nI n), (nI k), me, ob, ot, oe, it, lr, lb, la, sz, kd, ev, th, el, op, rs, fi, se, dm, fr, lv, bg, en, va) ∧ v = ((nI n), (nI k), ym, lr, lb, la, sz, op, rs, fi, se, kd, us, f1, f2, yv, nd, ru, eg, yg, nw, yo, yw) ∧ fi_G n k sz kd ev th el op rs fi se us f1 f2
theorem i_mk {m n k : Nat} {lr lb la me ob ot oe it ym : Int32} {sz kd ev th el op rs fi se us f1 f2 dm fr lv va yv nd ru eg yo yw : Nat → Int32} {bg en yg nw : Nat → Int64}
    (G : fi_G n k sz kd ev th el op rs fi se us f1 f2) : i_Rel m ((nI n), (nI k), me, ob, ot, oe, it, lr, lb, la, sz, kd, ev, th, el, op, rs, fi, se, dm, fr, lv, bg, en, va) ((nI n), (nI k), ym, lr, lb, la, sz, op, rs, fi, se, kd, us, f1, f2, yv, nd, ru, eg, yg, nw, yo, yw) :=
  ⟨n, k, lr, lb, la, me, ob, ot, oe, it, ym, sz, kd, ev, th, el, op, rs, fi, se, us, f1, f2, dm, fr, lv, va, yv, nd, ru, eg, yo, yw, bg, en, yg, nw, rfl, rfl, G⟩
