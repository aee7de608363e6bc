/-! the heap after the constructors, run by the kernel -/
def I0 : Mem := fun k j => if lay k = (0, 9, 0) ∧ j = 3 then 32 else if k = 0 then (if j = 5 then nI 62 else if j = 6 then nI 127 else if j = 10 then nI 192 else if j = 11 then nI 194 else 0) else 0
/-- does the cell that the constructors left stand for the layout's cell? -/
def chk (k : Nat) (a : AC) : Bool := match lay k, a with
  | (0, ci, _), (0, c2, fs) => decide (ci = c2) && (List.range (nf ci)).all (fun j => match fk ci j with
    | 0 => decide (nI (fs.getD j 0) = I0 k j)
    | 1 => decide (fs.getD j 0 = tgt k j + 1)
    | _ => decide (fs.getD j 0 = (I0 k j).toNatClampNeg + 1))
  | (1, n, _), (1, n2, _) => decide (n = n2)
  | (2, n, _), (2, n2, _) => decide (n = n2)
  | (3, n, _), (3, n2, _) => decide (n = n2)
  | (4, n, _), (4, n2, _) => decide (n = n2)
  | (t + 5, n, _), (t2 + 5, n2, fs) => decide (t = t2 ∧ n = n2) && (List.range n).all (fun i => decide (fs.getD i 0 = tgt k i + 1))
  | _, _ => false
def chkA (A : AH) : Bool := decide (A.length = NN) && (List.range NN).all (fun k => chk k (A.getD k d0))
def okC (o : Option AH) : Bool := match o with
  | some A => chkA A && decide (szA A = 3743)
  | none => false
set_option maxRecDepth 1000000 in
theorem obj_built : okC (i_X11 0 [(0, 11, List.replicate 13 0)]) = true := by decide +kernel
theorem gd_tt {R : Type} {e : Option R} : gd true e = e := rfl
theorem gN_1 : gN [] 0 0 600130 7301080 1 13 = true := by decide
theorem szA_1 : szA [((0, 11, List.replicate 13 0) : AC)] = 13 := by decide +kernel
theorem law_A {A : AH} (h : i_X11 0 [(0, 11, List.replicate 13 0)] = some A) (hl : A.length = NN) (hs : szA A = 3743) : i_law [] = some (A, 0) := by
  have g2 : gC [((0, 11, List.replicate 13 0) : AC)] A 0 0 600130 7301080 195 3730 = true := by
    unfold gC
    rw [szA_1, hl, hs]
    decide
  simp only [i_law, gN_1, gd_tt, bnd, List.nil_append, List.length_nil, h, Option.bind_some, g2]
