/-! the heap after the constructors, run by the kernel -/
def I0 : Mem := fun k j => if lay k = (0, 9, 0) ∧ j = 3 then 32 else if k = 0 then (if j = 5 then nI 62 else if j = 6 then nI 127 else if j = 10 then nI 192 else if j = 11 then nI 194 else 0) else 0
/-- does the cell that the constructors left stand for the layout's cell, its block o cells further on? -/
def chk (o k : Nat) (a : AC) : Bool := match lay k, a with
  | (0, ci, _), (0, c2, fs) => decide (ci = c2) && (List.range (nf ci)).all (fun j => match fk ci j with
    | 0 => decide (nI (fs.getD j 0) = I0 k j)
    | 1 => decide (fs.getD j 0 = tgt k j + o + 1)
    | _ => decide (fs.getD j 0 = (I0 k j).toNatClampNeg + o + 1))
  | (1, n, _), (1, n2, _) => decide (n = n2)
  | (2, n, _), (2, n2, _) => decide (n = n2)
  | (3, n, _), (3, n2, _) => decide (n = n2)
  | (4, n, _), (4, n2, _) => decide (n = n2)
  | (t + 5, n, _), (t2 + 5, n2, fs) => decide (t = t2 ∧ n = n2) && (List.range n).all (fun i => decide (fs.getD i 0 = tgt k i + o + 1))
  | _, _ => false
def chkA (A : AH) : Bool := decide (A.length = NN + NN) && ((List.range NN).all (fun k => chk 0 k (A.getD k d0)) && (List.range NN).all (fun k => chk NN k (A.getD (NN + k) d0)))
def okLaw (o : Option (AH × Nat × Nat)) : Bool := match o with
  | some (A, k1, k2) => chkA A && decide (k1 = 0 ∧ k2 = 196 ∧ szA A ≤ 30000)
  | none => false
set_option maxRecDepth 1000000 in
theorem law_built : okLaw (i_law []) = true := by decide +kernel
