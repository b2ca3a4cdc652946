/-- what an instruction sets in a run -/
def fv_v (op a b : Int32) (vs : Nat → Int32) (k A C : Int32) : Int32 :=
  if op = 7 then A + k * C else if op = 0 then a else if op = 1 then vs a.toNatClampNeg else fz_w op (vs a.toNatClampNeg) (vs b.toNatClampNeg)
section
variable (sz kd ev th el op d a b : Nat → Int32) (A C : Int32)
def fv_th (q : Nat) (s : (Nat → Int32) × Int32) : Nat → (Nat → Int32) × Int32
  | 0 => s
  | i + 1 => (upd (fv_th q s i).1 (d (q + i)).toNatClampNeg (fv_v (op (q + i)) (a (q + i)) (b (q + i)) (fv_th q s i).1 (fv_th q s i).2 A C), if op (q + i) = 7 then (fv_th q s i).2 + 1 else (fv_th q s i).2)
/-- through block x -/
def fv_bl (x : Nat) (s : (Nat → Int32) × Int32) : (Nat → Int32) × Int32 := fv_th op d a b A C (4 * x) s (sz x).toNatClampNeg
/-- the block behind x -/
def fv_nx (x : Nat) (vs : Nat → Int32) : Nat := if kd x = 2 ∧ vs (ev x).toNatClampNeg = 0 then (el x).toNatClampNeg else (th x).toNatClampNeg
/-- from the end of block x, g blocks at most may still be begun: the last block, its end's state, how many of the g are left -/
def fv_go : Nat → Nat → (Nat → Int32) × Int32 → Nat × ((Nat → Int32) × Int32) × Nat
  | 0, x, s => (x, s, 0)
  | g + 1, x, s => if kd x = 0 then (x, s, g + 1) else fv_go g (fv_nx kd ev th el x s.1) (fv_bl sz op d a b A C (fv_nx kd ev th el x s.1) s)
end
