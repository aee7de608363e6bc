/-! the constructors: a heap that grows, told by numbers alone, so that the kernel can run them -/
abbrev AC : Type := Nat × Nat × List Nat
abbrev AH : Type := List AC
def d0 : AC := (99, 0, [])
def fvA (G : Gx) (ci j code : Nat) : Value := if fk ci j = 0 then .int (nI code) else (if code = 0 then .null else .ref (G.1 + (code - 1)))
def qA (G : Gx) (code : Nat) : Option Nat := if code = 0 then none else some (G.1 + (code - 1))
def cellA (G : Gx) (a : AC) : va_E := match a with
  | (0, ci, fs) => .inr (ci, (List.range (nf ci)).map (fun j => fvA G ci j (fs.getD j 0)))
  | (1, n, _) => .inl (G.2.2.2.1 0, n, .inl (fun _ => 0))
  | (2, n, _) => .inl (G.2.2.2.1 1, n, .inl (fun _ => 0))
  | (3, n, _) => .inl (G.2.2.2.1 2, n, .inl (fun _ => 0))
  | (4, n, _) => .inl (G.2.2.2.1 3, n, .inr (.inl (fun _ => 0)))
  | (t + 5, n, fs) => .inl (G.2.2.2.1 (t + 4), n, .inr (.inr (.inr (.inr (fun i => qA G (fs.getD i 0))))))
def wdA (G : Gx) (A : AH) : va_W := (List.range A.length).map (fun k => (G.1 + k, cellA G (A.getD k d0)))
def RepA (G : Gx) (A : AH) (H : Heap) : Prop := H.size = G.1 + A.length ∧ va_P (Dg G) vwCl (wdA G A) H
def szC (a : AC) : Nat := if a.1 = 0 then nf a.2.1 else a.2.1
def szA (A : AH) : Nat := (A.map szC).sum
theorem szA_app (A : AH) (a : AC) : szA (A ++ [a]) = szA A + szC a := by simp [szA]
theorem wdA_get {G : Gx} {A : AH} {k : Nat} (hk : k < A.length) : (wdA G A)[k]? = some (G.1 + k, cellA G (A.getD k d0)) := by simp [wdA, hk]
theorem wdA_apart {G : Gx} {A : AH} (hn : 0 < Gn G) : va_D (Ab G) (wdA G A) := by
  refine ⟨fun i j p q hi hj hpq => ?_, fun k q hq => ?_⟩
  · have li := (List.getElem?_eq_some_iff.mp hi).1
    have lj := (List.getElem?_eq_some_iff.mp hj).1
    simp only [wdA, List.length_map, List.length_range] at li lj
    rw [wdA_get li] at hi
    rw [wdA_get lj] at hj
    cases hi
    cases hj
    simp only at hpq
    omega
  · have lk := (List.getElem?_eq_some_iff.mp hq).1
    simp only [wdA, List.length_map, List.length_range] at lk
    rw [wdA_get lk] at hq
    cases hq
    exact ⟨Nat.le_add_right _ _, Or.inr hn⟩
theorem getD_app_l {A : AH} {a : AC} {k : Nat} (hk : k < A.length) : (A ++ [a]).getD k d0 = A.getD k d0 := by
  rw [List.getD_eq_getElem?_getD, List.getD_eq_getElem?_getD, List.getElem?_append_left hk]
theorem getD_app_r {A : AH} {a : AC} : (A ++ [a]).getD A.length d0 = a := by
  rw [List.getD_eq_getElem?_getD, List.getElem?_append_right (Nat.le_refl _), Nat.sub_self]
  rfl
theorem RepA.push {G : Gx} {A : AH} {H H1 : Heap} {a : AC} (h : RepA G A H) (hz : H1.size = H.size + 1) (hk : ∀ q : Nat, q < H.size → H1[q]? = H[q]?) (ha : va_at (Dg G) vwCl (G.1 + A.length, cellA G a) H1) : RepA G (A ++ [a]) H1 := by
  obtain ⟨h1, h2⟩ := h
  refine ⟨by rw [hz, h1, List.length_append]; rfl, fun k q hq => ?_⟩
  have lk := (List.getElem?_eq_some_iff.mp hq).1
  simp only [wdA, List.length_map, List.length_range, List.length_append, List.length_cons, List.length_nil] at lk
  rw [wdA_get (by rw [List.length_append]; exact lk)] at hq
  cases hq
  by_cases e : k < A.length
  · rw [getD_app_l e]
    exact (h2 k _ (wdA_get e)).kept (hk _ (by rw [h1]; show G.1 + k < _; omega))
  · have e1 : k = A.length := by omega
    subst e1
    rw [getD_app_r]
    exact ha
theorem wdA_set {G : Gx} {A : AH} {k : Nat} {a : AC} {e : va_E} (hk : k < A.length) (he : cellA G a = e) : (wdA G A).set k (G.1 + k, e) = wdA G (A.set k a) := by
  apply List.ext_getElem?
  intro b
  by_cases h : b = k
  · subst h
    rw [List.getElem?_set_self (by simp [wdA, hk]), wdA_get (by simpa using hk)]
    rw [List.getD_eq_getElem?_getD, List.getElem?_set_self hk]
    simp [he]
  · rw [List.getElem?_set_ne (Ne.symm h)]
    by_cases hb : b < A.length
    · rw [wdA_get hb, wdA_get (by simpa using hb), List.getD_eq_getElem?_getD, List.getD_eq_getElem?_getD, List.getElem?_set_ne (Ne.symm h)]
    · rw [List.getElem?_eq_none (by simp [wdA]; omega), List.getElem?_eq_none (by simp [wdA]; omega)]
/-! the judgement: counts of cells and slots go with the heap's length -/
def WN (Z : Zx) (a0 s0 : Nat) (A : AH) (pc : Nat) (L : List (Option Value)) (st : List Value) : Prop :=
  ∀ (H : Heap) (locs : List Loc) (ls : Array Slot), RepA (zG Z) A H → va_S (Ab (zG Z)) (zs Z).heap H locs → hasL ls L → WZ (Zb Z (A.length - a0) (szA A - s0)) H locs (F0 (zm Z) pc ls st)
def WFN {R : Type} (Z : Zx) (a0 s0 : Nat) (K : R → Prop) (e : Option R) (A : AH) (pc : Nat) (L : List (Option Value)) (st : List Value) : Prop := ∀ x, e = some x → K x → WN Z a0 s0 A pc L st
/-- the same below the frame: new cells are above the law's heap -/
def CN (Z : Zx) (mc ms : Nat) : Prop := (zR Z).cells = mc ∧ (zR Z).slots = ms ∧ (zG Z).1 ≤ (zs Z).heap.size ∧ 0 < Gn (zG Z)
def gN (A : AH) (a0 s0 mc ms dc dn : Nat) : Bool := decide (a0 ≤ A.length ∧ s0 ≤ szA A ∧ A.length + dc ≤ a0 + mc ∧ szA A + dn ≤ s0 + ms)
def gO (A : AH) (k ci : Nat) : Bool := decide (k < A.length ∧ (A.getD k d0).1 = 0 ∧ (A.getD k d0).2.1 = ci ∧ (A.getD k d0).2.2.length = nf ci)
def gR (A : AH) (k t n : Nat) : Bool := decide (k < A.length ∧ (A.getD k d0).1 = t + 5 ∧ (A.getD k d0).2.1 = n ∧ (A.getD k d0).2.2.length = n)
def fsA (A : AH) (k : Nat) : List Nat := (A.getD k d0).2.2
def setA (A : AH) (k j v : Nat) : AH := A.set k ((A.getD k d0).1, (A.getD k d0).2.1, (fsA A k).set j v)
theorem gO_of {A : AH} {k ci : Nat} (h : gO A k ci = true) : k < A.length ∧ A.getD k d0 = (0, ci, fsA A k) ∧ (fsA A k).length = nf ci := by
  simp only [gO, decide_eq_true_eq] at h
  refine ⟨h.1, ?_, h.2.2.2⟩
  rw [← h.2.1, ← h.2.2.1]
  rfl
theorem gR_of {A : AH} {k t n : Nat} (h : gR A k t n = true) : k < A.length ∧ A.getD k d0 = (t + 5, n, fsA A k) ∧ (fsA A k).length = n := by
  simp only [gR, decide_eq_true_eq] at h
  refine ⟨h.1, ?_, h.2.2.2⟩
  rw [← h.2.1, ← h.2.2.1]
  rfl
def RetN (Z : Zx) (cc : ByteArray) (mc ms : Nat) (A : AH) : Prop := ∀ (c n pc : Nat) (L : List (Option Value)), c ≤ mc → n ≤ ms → decode cc pc = .ok (.return_, 1) → ∀ (H : Heap) (locs : List Loc) (ls : Array Slot), RepA (zG Z) A H → va_S (Ab (zG Z)) (zs Z).heap H locs → hasL ls L → WZ (Zb Z c n) H locs (F0 (zm Z) pc ls [])
section NR
variable {Z : Zx} {cc : ByteArray} {nL : Nat} {own : String} {R : Type} {K : R → Prop} {e : Option R} {A : AH} {a0 s0 pc q : Nat} {L : List (Option Value)} {st : List Value}
theorem WFN.less {L' : List (Option Value)} (h : WFN Z a0 s0 K e A pc L' st) (hl : lessL L' L) : WFN Z a0 s0 K e A pc L st :=
  fun x hx hk H locs ls hR hS hL => h x hx hk H locs ls hR hS (hL.less hl.to.1 hl.to.2)
theorem n_gd {b : Bool} (kk : b = true → WFN Z a0 s0 K e A pc L st) : WFN Z a0 s0 K (gd b e) A pc L st := fun x hx => kk (gd_some hx).1 x (gd_some hx).2
theorem n_jmp {x : R} (hK : K x → WN Z a0 s0 A pc L st) : WFN Z a0 s0 K (some x) A pc L st := by
  intro y hy hk
  cases hy
  exact hK hk
theorem n_iconst (C : Cx Z cc nL own) {n : Int} {v : Int32} (d : decode cc pc = .ok (.iconst n, 1)) (hv : Int32.ofInt n = v) (hq : pc + 1 = q) (k : WFN Z a0 s0 K e A q L (.int v :: st)) : WFN Z a0 s0 K e A pc L st :=
  fun x hx hk H locs ls hR hS hL => lv_iconst C.x C.b d hv (hq ▸ k x hx hk H locs ls hR hS hL)
theorem n_bipush (C : Cx Z cc nL own) {n : Int} {v : Int32} (d : decode cc pc = .ok (.bipush n, 2)) (hv : (Int8.ofInt n).toInt32 = v) (hq : pc + 2 = q) (k : WFN Z a0 s0 K e A q L (.int v :: st)) : WFN Z a0 s0 K e A pc L st :=
  fun x hx hk H locs ls hR hS hL => lv_bipush C.x C.b d hv (hq ▸ k x hx hk H locs ls hR hS hL)
theorem n_sipush (C : Cx Z cc nL own) {n : Int} {v : Int32} (d : decode cc pc = .ok (.sipush n, 3)) (hv : (Int16.ofInt n).toInt32 = v) (hq : pc + 3 = q) (k : WFN Z a0 s0 K e A q L (.int v :: st)) : WFN Z a0 s0 K e A pc L st :=
  fun x hx hk H locs ls hR hS hL => lv_sipush C.x C.b d hv (hq ▸ k x hx hk H locs ls hR hS hL)
theorem n_iload_n (C : Cx Z cc nL own) {n : Fin 4} {v : Int32} (d : decode cc pc = .ok (.iload_n n, 1)) (hl : L[(n : Nat)]? = some (some (.int v))) (hq : pc + 1 = q) (k : WFN Z a0 s0 K e A q L (.int v :: st)) : WFN Z a0 s0 K e A pc L st :=
  fun x hx hk H locs ls hR hS hL => lv_iload_n C.x C.b d rfl (hL.get hl) (hq ▸ k x hx hk H locs ls hR hS hL)
theorem n_iload (C : Cx Z cc nL own) {n : Nat} {v : Int32} (d : decode cc pc = .ok (.iload n, 2)) (hl : L[n]? = some (some (.int v))) (hq : pc + 2 = q) (k : WFN Z a0 s0 K e A q L (.int v :: st)) : WFN Z a0 s0 K e A pc L st :=
  fun x hx hk H locs ls hR hS hL => lv_iload C.x C.b d (hL.get hl) (hq ▸ k x hx hk H locs ls hR hS hL)
theorem n_aload_n (C : Cx Z cc nL own) {n : Fin 4} {v : Nat} (d : decode cc pc = .ok (.aload_n n, 1)) (hl : L[(n : Nat)]? = some (some (rf (zG Z) v))) (hq : pc + 1 = q) (k : WFN Z a0 s0 K e A q L (rf (zG Z) v :: st)) : WFN Z a0 s0 K e A pc L st :=
  fun x hx hk H locs ls hR hS hL => lv_aload_n C.x C.b d rfl (hL.get hl) (hq ▸ k x hx hk H locs ls hR hS hL)
theorem n_aload (C : Cx Z cc nL own) {n : Nat} {v : Nat} (d : decode cc pc = .ok (.aload n, 2)) (hl : L[n]? = some (some (rf (zG Z) v))) (hq : pc + 2 = q) (k : WFN Z a0 s0 K e A q L (rf (zG Z) v :: st)) : WFN Z a0 s0 K e A pc L st :=
  fun x hx hk H locs ls hR hS hL => lv_aload C.x C.b d (hL.get hl) (hq ▸ k x hx hk H locs ls hR hS hL)
theorem n_istore_n (C : Cx Z cc nL own) {n : Fin 4} {v : Int32} {L' : List (Option Value)} (d : decode cc pc = .ok (.istore_n n, 1)) (hn : (n : Nat) < L.length) (hl : L.set n (some (.int v)) = L') (hq : pc + 1 = q) (k : WFN Z a0 s0 K e A q L' st) : WFN Z a0 s0 K e A pc L (.int v :: st) :=
  fun x hx hk H locs ls hR hS hL => lv_istore_n C.x C.b d rfl hL.has hn rfl (fun ls' h' => hq ▸ k x hx hk H locs ls' hR hS (hl ▸ hasL.of hn rfl hL.cat h'))
theorem n_istore (C : Cx Z cc nL own) {n : Nat} {v : Int32} {L' : List (Option Value)} (d : decode cc pc = .ok (.istore n, 2)) (hn : n < L.length) (hl : L.set n (some (.int v)) = L') (hq : pc + 2 = q) (k : WFN Z a0 s0 K e A q L' st) : WFN Z a0 s0 K e A pc L (.int v :: st) :=
  fun x hx hk H locs ls hR hS hL => lv_istore C.x C.b d hL.has hn rfl (fun ls' h' => hq ▸ k x hx hk H locs ls' hR hS (hl ▸ hasL.of hn rfl hL.cat h'))
theorem n_astore_n (C : Cx Z cc nL own) {n : Fin 4} {v : Nat} {L' : List (Option Value)} (d : decode cc pc = .ok (.astore_n n, 1)) (hn : (n : Nat) < L.length) (hl : L.set n (some (rf (zG Z) v)) = L') (hq : pc + 1 = q) (k : WFN Z a0 s0 K e A q L' st) : WFN Z a0 s0 K e A pc L (rf (zG Z) v :: st) :=
  fun x hx hk H locs ls hR hS hL => lv_astore_n C.x C.b d rfl hL.has hn rfl (fun ls' h' => hq ▸ k x hx hk H locs ls' hR hS (hl ▸ hasL.of (v := rf (zG Z) v) hn rfl hL.cat h'))
theorem n_astore (C : Cx Z cc nL own) {n : Nat} {v : Nat} {L' : List (Option Value)} (d : decode cc pc = .ok (.astore n, 2)) (hn : n < L.length) (hl : L.set n (some (rf (zG Z) v)) = L') (hq : pc + 2 = q) (k : WFN Z a0 s0 K e A q L' st) : WFN Z a0 s0 K e A pc L (rf (zG Z) v :: st) :=
  fun x hx hk H locs ls hR hS hL => lv_astore C.x C.b d hL.has hn rfl (fun ls' h' => hq ▸ k x hx hk H locs ls' hR hS (hl ▸ hasL.of (v := rf (zG Z) v) hn rfl hL.cat h'))
theorem n_iinc (C : Cx Z cc nL own) {n : Nat} {a : Int} {x0 v : Int32} {L' : List (Option Value)} (d : decode cc pc = .ok (.iinc n a, 3)) (h0 : L[n]? = some (some (.int x0))) (hv : x0 + Int32.ofInt a = v) (hl : L.set n (some (.int v)) = L') (hq : pc + 3 = q) (k : WFN Z a0 s0 K e A q L' st) : WFN Z a0 s0 K e A pc L st := by
  intro x hx hk H locs ls hR hS hL
  have hn : n < L.length := (List.getElem?_eq_some_iff.mp h0).1
  obtain ⟨i, hi⟩ := List.getElem?_of_mem (enL_mem (q := (n, Value.int x0)).mpr h0)
  exact lv_iinc C.x C.b d hL.has hi hv hn rfl (fun ls' h' => hq ▸ k x hx hk H locs ls' hR hS (hl ▸ hasL.of hn rfl hL.cat h'))
theorem n_dup (C : Cx Z cc nL own) {v : Value} (d : decode cc pc = .ok (.dup, 1)) (hc : v.category = 1) (hq : pc + 1 = q) (k : WFN Z a0 s0 K e A q L (v :: v :: st)) : WFN Z a0 s0 K e A pc L (v :: st) :=
  fun r hr hk H locs ls hR hS hL => lv_dup C.x C.b d hc (hq ▸ k r hr hk H locs ls hR hS hL)
theorem n_goto (C : Cx Z cc nL own) {off : Int} {tgt : Nat} (d : decode cc pc = .ok (.goto off, 3)) (ht : (pc : Int) + off = (tgt : Int)) (k : WFN Z a0 s0 K e A tgt L st) : WFN Z a0 s0 K e A pc L st :=
  fun r hr hk H locs ls hR hS hL => lv_goto C.x C.b d ht (k r hr hk H locs ls hR hS hL)
theorem n_icmp_ge (C : Cx Z cc nL own) {x y : Int32} {off : Int} {tgt : Nat} {e1 e2 : Option R} {i0 : Decidable (y ≤ x)} (d : decode cc pc = .ok (.if_icmp .ge off, 3)) (ht : (pc : Int) + off = (tgt : Int)) (hq : pc + 3 = q) (kt : y ≤ x → WFN Z a0 s0 K e1 A tgt L st) (kf : ¬ (y ≤ x) → WFN Z a0 s0 K e2 A q L st) : WFN Z a0 s0 K (@ite _ (y ≤ x) i0 e1 e2) A pc L (.int y :: .int x :: st) :=
  fun r hr hk H locs ls hR hS hL => lv_icmp_ge C.x C.b d ht (fun c => kt c r (by rw [if_pos c] at hr; exact hr) hk H locs ls hR hS hL) (fun c => hq ▸ kf c r (by rw [if_neg c] at hr; exact hr) hk H locs ls hR hS hL)
theorem n_vret {x : R} (C : Cx Z cc nL own) {mc ms : Nat} (N : CN Z mc ms) (hK : K x → RetN Z cc mc ms A) (hg : gN A a0 s0 mc ms 0 0 = true) (d : decode cc pc = .ok (.return_, 1)) : WFN Z a0 s0 K (some x) A pc L [] := by
  intro y hy hk H locs ls hR hS hL
  cases hy
  simp only [gN, decide_eq_true_eq] at hg
  exact hK hk _ _ pc L (by omega) (by omega) d H locs ls hR hS hL
theorem n_new (C : Cx Z cc nL own) {mc ms : Nat} (N : CN Z mc ms) {Cn : String} {T : u_T} {ty : Nat → FieldType} {n ci idx : Nat} {f : AH → Option R} (hin : ∀ w ∈ u_ws Cn T n, w ∈ LT) (hty : ∀ k, k < n → parseFieldDescriptor (T k).2.2.1 = some (ty k)) (hc : vwCl[ci]? = some (Cn, T, n)) (hnf : nf ci = n)
    (hdef : ∀ j : Nat, j < n → (fk ci j = 0 ∧ defaultValue (ty j) = .int 0) ∨ (¬ fk ci j = 0 ∧ defaultValue (ty j) = .null)) (lnk : Cond.classLink own idx Cn ∈ LT) (inst : Cond.instantiable Cn n ∈ LT) (ini : Cond.initialized Cn ∈ LT) (d : decode cc pc = .ok (.new idx, 3)) (hq : pc + 3 = q)
    (kk : ∀ A' : AH, WFN Z a0 s0 K (f A') A' q L (rf (zG Z) A.length :: st)) : WFN Z a0 s0 K (gd (gN A a0 s0 mc ms 1 n) (bnd (A ++ [(0, ci, List.replicate n 0)]) f)) A pc L st := by
  intro x hx hk H locs ls hR hS hL
  obtain ⟨hg, hx⟩ := gd_some hx
  simp only [gN, decide_eq_true_eq] at hg
  have hts := C.ts
  have hKn := C.K.1 ci _ hc
  have hR0 := hR
  obtain ⟨hz, hP⟩ := hR
  refine W.newcK C.x C.b C.ow (hts _ lnk) (hts _ inst) (hts _ ini) rfl d (by show A.length - a0 + 1 ≤ (zR Z).cells; rw [N.1]; omega) (by show szA A - s0 + n ≤ (zR Z).slots; rw [N.2.1]; omega) hKn.2.1 rfl fun H1 kC hkC e1 z1 o1 => ?_
  have hR1 : RepA (zG Z) (A ++ [(0, ci, List.replicate n 0)]) H1 := by
    refine hR0.push z1 o1 ?_
    rw [← hz]
    refine ⟨_, hc, (u_born ty hts hin hKn hkC e1 hty).to fun j hj => ?_⟩
    simp only [vp_V, hnf]
    rw [List.getD_eq_getElem?_getD]
    simp only [List.getElem?_map, List.getElem?_range hj, Option.map_some, Option.getD_some, fvA]
    have h0 : (List.replicate n 0).getD j 0 = 0 := by rw [List.getD_eq_getElem?_getD, List.getElem?_replicate]; split <;> rfl
    rw [h0]
    rcases hdef j hj with ⟨h1, h2⟩ | ⟨h1, h2⟩
    · rw [if_pos h1, h2]; rfl
    · rw [if_neg h1, h2]; rfl
  have hS1 : va_S (Ab (zG Z)) (zs Z).heap H1 locs := ⟨Nat.le_trans hS.1 (by omega), fun x h1 h2 => (o1 x (Nat.lt_of_lt_of_le h1 hS.1)).trans (hS.2.1 x h1 h2), hS.2.2⟩
  have hk1 := kk (A ++ [(0, ci, List.replicate n 0)]) x hx hk H1 locs ls hR1 hS1 hL
  have c1 : (A ++ [((0, ci, List.replicate n 0) : AC)]).length - a0 = A.length - a0 + 1 := by rw [List.length_append]; simp; omega
  have c2 : szA (A ++ [((0, ci, List.replicate n 0) : AC)]) - s0 = szA A - s0 + n := by rw [szA_app]; simp only [szC, if_pos, hnf]; omega
  rw [c1, c2] at hk1
  subst hq
  have hz2 : H.size = (zG Z).1 + A.length := hz
  rw [hz2]
  exact hk1
theorem n_newarr (C : Cx Z cc nL own) {mc ms : Nat} (N : CN Z mc ms) {atype : ArrayType} {t n : Nat} {ty : FieldType} {v : Int32} {f : AH → Option R} (hty : newarray.typeOf atype = ty) (ht : (tysG (zG Z))[t]? = some ((zG Z).2.2.2.1 t, ty)) (hra : ∀ U cA, va_RA U cA ty → U.vm.findClass ("[" ++ ty.toString) = some cA)
    (hcell : ∀ cA, (cellA (zG Z) (t + 1, n, []) = .inl ((zG Z).2.2.2.1 t, n, cA) → vp_cell ((zG Z).2.2.2.1 t) (n, cA) = arrV ((zG Z).2.2.2.1 t) n (fun _ => defaultValue ty))) (hex : ∃ cA, cellA (zG Z) (t + 1, n, []) = .inl ((zG Z).2.2.2.1 t, n, cA))
    (harr : Cond.arrayClass ty ∈ LT) (hv0 : ¬ v < 0) (hv : v.toNatClampNeg = n) (hby : n * componentBytes ty ≤ 536870912) (d : decode cc pc = .ok (.newarray atype, 2)) (hq : pc + 2 = q)
    (kk : ∀ A' : AH, WFN Z a0 s0 K (f A') A' q L (rf (zG Z) A.length :: st)) : WFN Z a0 s0 K (gd (gN A a0 s0 mc ms 1 n) (bnd (A ++ [(t + 1, n, [])]) f)) A pc L (.int v :: st) := by
  intro x hx hk H locs ls hR hS hL
  obtain ⟨hg, hx⟩ := gd_some hx
  simp only [gN, decide_eq_true_eq] at hg
  have hts := C.ts
  have hR0 := hR
  obtain ⟨hz, hP⟩ := hR
  subst hty
  refine va_newaK C.x C.b (atype := atype) (hts _ harr) rfl d rfl hv0 hv hby (by show A.length - a0 + 1 ≤ (zR Z).cells; rw [N.1]; omega) (by show szA A - s0 + n ≤ (zR Z).slots; rw [N.2.1]; omega) rfl fun H1 cA e1 z1 o1 hAr hNm => ?_
  have hcA : cA = (zG Z).2.2.2.1 t := by
    have h1 := hra _ _ (C.K.2 t _ ht).2
    exact Option.some.inj (hNm.symm.trans h1)
  subst hcA
  have hR1 : RepA (zG Z) (A ++ [(t + 1, n, [])]) H1 := by
    refine hR0.push z1 o1 ?_
    rw [← hz]
    obtain ⟨ca, hca⟩ := hex
    rw [hca]
    show H1[H.size]? = some (vp_cell _ _)
    rw [hcell ca hca]
    exact e1
  have hS1 : va_S (Ab (zG Z)) (zs Z).heap H1 locs := ⟨Nat.le_trans hS.1 (by omega), fun x h1 h2 => (o1 x (Nat.lt_of_lt_of_le h1 hS.1)).trans (hS.2.1 x h1 h2), hS.2.2⟩
  have hk1 := kk (A ++ [(t + 1, n, [])]) x hx hk H1 locs ls hR1 hS1 hL
  have c1 : (A ++ [((t + 1, n, []) : AC)]).length - a0 = A.length - a0 + 1 := by rw [List.length_append]; simp; omega
  have c2 : szA (A ++ [((t + 1, n, []) : AC)]) - s0 = szA A - s0 + n := by rw [szA_app]; simp only [szC, Nat.succ_ne_zero, if_neg, not_false_eq_true]; omega
  rw [c1, c2] at hk1
  subst hq
  have hz2 : H.size = (zG Z).1 + A.length := hz
  rw [hz2]
  exact hk1
theorem n_newref (C : Cx Z cc nL own) {mc ms : Nat} (N : CN Z mc ms) {t n idx : Nat} {Cn : String} {v : Int32} {f : AH → Option R} (ht : (tysG (zG Z))[t + 4]? = some ((zG Z).2.2.2.1 (t + 4), .object Cn)) (lnk : Cond.classLink own idx Cn ∈ LT) (hov : Cond.arrayOver (.object Cn) ∈ LT)
    (hv0 : ¬ v < 0) (hv : v.toNatClampNeg = n) (hby : n * 4 ≤ 536870912) (d : decode cc pc = .ok (.anewarray idx, 3)) (hq : pc + 3 = q)
    (kk : ∀ A' : AH, WFN Z a0 s0 K (f A') A' q L (rf (zG Z) A.length :: st)) : WFN Z a0 s0 K (gd (gN A a0 s0 mc ms 1 n) (bnd (A ++ [(t + 5, n, List.replicate n 0)]) f)) A pc L (.int v :: st) := by
  intro x hx hk H locs ls hR hS hL
  obtain ⟨hg, hx⟩ := gd_some hx
  simp only [gN, decide_eq_true_eq] at hg
  have hts := C.ts
  have hR0 := hR
  obtain ⟨hz, hP⟩ := hR
  subst hv
  refine W.anew C.x C.b C.ow (hts _ lnk) (hts _ hov) rfl d rfl hv0 hby (by show A.length - a0 + 1 ≤ (zR Z).cells; rw [N.1]; omega) (by show szA A - s0 + _ ≤ (zR Z).slots; rw [N.2.1]; omega) fun cA kA comp f1 f2 f3 f4 => ?_
  generalize hH1 : H.push ({ cls := cA, slots := Array.replicate v.toNatClampNeg .null, vm := .none } : Cell) = H1
  have z1 : H1.size = H.size + 1 := by rw [← hH1, Array.size_push]
  have e1 : H1[H.size]? = some (arrV cA v.toNatClampNeg (fun _ => .null)) := by rw [← hH1, Array.getElem?_push_size, ← arrV_new]
  have o1 : ∀ q : Nat, q < H.size → H1[q]? = H[q]? := fun q hq => by rw [← hH1, Array.getElem?_push, if_neg (Nat.ne_of_lt hq)]
  have hcA : cA = (zG Z).2.2.2.1 (t + 4) := by
    obtain ⟨k9, c9, h1, h2, h3, h4⟩ := (C.K.2 (t + 4) _ ht).2
    exact Option.some.inj (f1.symm.trans h4)
  subst hcA
  have hR1 : RepA (zG Z) (A ++ [(t + 5, v.toNatClampNeg, List.replicate v.toNatClampNeg 0)]) H1 := by
    refine hR0.push z1 o1 ?_
    rw [← hz]
    show H1[H.size]? = some (vp_cell _ _)
    rw [e1, vp_cell_q]
    congr 2
    funext i
    have h0 : (List.replicate v.toNatClampNeg 0).getD i 0 = 0 := by rw [List.getD_eq_getElem?_getD, List.getElem?_replicate]; split <;> rfl
    show Value.null = va_rf (qA _ ((List.replicate _ 0).getD i 0))
    rw [h0]
    rfl
  have hS1 : va_S (Ab (zG Z)) (zs Z).heap H1 locs := ⟨Nat.le_trans hS.1 (by omega), fun x h1 h2 => (o1 x (Nat.lt_of_lt_of_le h1 hS.1)).trans (hS.2.1 x h1 h2), hS.2.2⟩
  have hk1 := kk (A ++ [(t + 5, v.toNatClampNeg, List.replicate v.toNatClampNeg 0)]) x hx hk H1 locs ls hR1 hS1 hL
  have c1 : (A ++ [((t + 5, v.toNatClampNeg, List.replicate v.toNatClampNeg 0) : AC)]).length - a0 = A.length - a0 + 1 := by rw [List.length_append]; simp; omega
  have c2 : szA (A ++ [((t + 5, v.toNatClampNeg, List.replicate v.toNatClampNeg 0) : AC)]) - s0 = szA A - s0 + v.toNatClampNeg := by rw [szA_app]; simp only [szC, Nat.succ_ne_zero, if_neg, not_false_eq_true]; omega
  rw [c1, c2] at hk1
  subst hq
  have hz2 : H.size = (zG Z).1 + A.length := hz
  rw [hz2]
  exact hk1
end NR
