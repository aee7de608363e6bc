/-! the persistent objects of one object of the class, or of the law's two: the world that a memory stands for -/
abbrev Gx : Type := Nat × (Nat → ClassId) × (Nat → Nat → Nat) × (Nat → ClassId) × Nat × Nat × Nat × (Nat → Int32)
abbrev Gn (G : Gx) : Nat := G.2.2.2.2.1
abbrev Gb (G : Gx) : Nat := G.2.2.2.2.2.1
abbrev Gl (G : Gx) : Nat := G.2.2.2.2.2.2.1
abbrev Gs (G : Gx) : Nat → Int32 := G.2.2.2.2.2.2.2
def sG (G : Gx) : Nat × (Nat → Int32) := (Gl G, Gs G)
def loG (G : Gx) : Gx := (G.1, G.2.1, G.2.2.1, G.2.2.2.1, 0, G.2.2.2.2.2)
def shG (G : Gx) : Gx := (G.1 + NN, G.2.1, G.2.2.1, G.2.2.2.1, 0, G.2.2.2.2.2)
def hi (I : Mem) : Mem := fun a b => I (a + NN) b
abbrev Mem2 : Type := Mem × Mem
def mg2 (I : Mem2) : Mem := fun a b => if a < NN then I.1 a b else I.2 (a - NN) b
def rf (G : Gx) (k : Nat) : Value := .ref (G.1 + k)
def fV (G : Gx) (row : Nat → Int32) (ci k j : Nat) : Value := match fk ci j with
  | 0 => .int (row j)
  | 1 => .ref (G.1 + tgt k j)
  | _ => .ref (G.1 + (row j).toNatClampNeg)
def cellR (G : Gx) (row : Nat → Int32) (k : Nat) : va_E := match lay k with
  | (0, ci, _) => .inr (ci, (List.range (nf ci)).map (fV G row ci k))
  | (1, n, _) => .inl (G.2.2.2.1 0, n, .inl row)
  | (2, n, _) => .inl (G.2.2.2.1 1, n, .inl row)
  | (3, n, _) => .inl (G.2.2.2.1 2, n, .inl row)
  | (4, n, _) => .inl (G.2.2.2.1 3, n, .inr (.inl (fun i => (row i).toInt64)))
  | (t + 5, n, _) => .inl (G.2.2.2.1 (t + 4), n, .inr (.inr (.inr (.inr (fun i => some (G.1 + tgt k i))))))
def wd1 (G : Gx) (I : Mem) : va_W := (List.range NN).map (fun k => (G.1 + k, cellR G (I k) k))
def wd (G : Gx) (I : Mem) : va_W := wd1 G I ++ (if Gn G = 0 then [] else wd1 (shG G) (hi I))
def Dg (G : Gx) : va_G := (G.2.1, G.2.2.1)
def tysG (G : Gx) : List (ClassId × FieldType) := (List.range arT.length).map (fun t => (G.2.2.2.1 t, arT.getD t .int))
def Ab (G : Gx) : Nat → Prop := fun q => G.1 ≤ q ∧ (q < G.1 + NN ∨ 0 < Gn G)
def Rep (G : Gx) (I : Mem) (H : Heap) : Prop := va_P (Dg G) vwCl (wd G I) H
theorem wd1_len {G : Gx} {I : Mem} : (wd1 G I).length = NN := by simp [wd1]
theorem wd1_get {G : Gx} {I : Mem} {k : Nat} (hk : k < NN) : (wd1 G I)[k]? = some (G.1 + k, cellR G (I k) k) := by
  simp [wd1, hk]
theorem wd_get {G : Gx} {I : Mem} {k : Nat} (hk : k < NN) : (wd G I)[k]? = some (G.1 + k, cellR G (I k) k) := by
  unfold wd
  rw [List.getElem?_append_left (by rw [wd1_len]; exact hk)]
  exact wd1_get hk
theorem wd_get2 {G : Gx} {I : Mem} {k : Nat} (hn : ¬ Gn G = 0) (hk : k < NN) : (wd G I)[NN + k]? = some (G.1 + NN + k, cellR (shG G) (hi I k) k) := by
  unfold wd
  rw [List.getElem?_append_right (by rw [wd1_len]; omega), wd1_len, if_neg hn, Nat.add_sub_cancel_left]
  exact wd1_get (G := shG G) hk
theorem wd_at {G : Gx} {I : Mem} {j : Nat} {q : Nat × va_E} (h : (wd G I)[j]? = some q) : (j < NN ∧ q = (G.1 + j, cellR G (I j) j)) ∨ (¬ Gn G = 0 ∧ ∃ k, k < NN ∧ j = NN + k ∧ q = (G.1 + NN + k, cellR (shG G) (hi I k) k)) := by
  by_cases hj : j < NN
  · rw [wd_get hj] at h
    cases h
    exact Or.inl ⟨hj, rfl⟩
  · have lj := (List.getElem?_eq_some_iff.mp h).1
    have hn : ¬ Gn G = 0 := fun hn => by
      unfold wd at lj
      rw [if_pos hn, List.append_nil, wd1_len] at lj
      exact hj lj
    have lj2 : j < NN + NN := by
      unfold wd at lj
      rw [if_neg hn, List.length_append, wd1_len, wd1_len] at lj
      exact lj
    obtain ⟨k, rfl⟩ : ∃ k, j = NN + k := ⟨j - NN, by omega⟩
    rw [wd_get2 hn (by omega)] at h
    cases h
    exact Or.inr ⟨hn, k, by omega, rfl, rfl⟩
theorem wd_apart {G : Gx} {I : Mem} : va_D (Ab G) (wd G I) := by
  refine ⟨fun i j p q hi hj hpq => ?_, fun k q hq => ?_⟩
  · rcases wd_at hi with ⟨a, rfl⟩ | ⟨_, a, h1, rfl, rfl⟩ <;> rcases wd_at hj with ⟨b, rfl⟩ | ⟨_, b, h2, rfl, rfl⟩ <;> simp only at hpq <;> omega
  · rcases wd_at hq with ⟨a, rfl⟩ | ⟨hn, a, h1, rfl, rfl⟩
    · exact ⟨Nat.le_add_right _ _, Or.inl (Nat.add_lt_add_left a _)⟩
    · exact ⟨by show G.1 ≤ G.1 + NN + a; omega, Or.inr (Nat.pos_of_ne_zero hn)⟩
theorem wd_set {G : Gx} {I I' : Mem} {k : Nat} {e : va_E} (hk : k < NN) (he : cellR G (I' k) k = e) (ho : ∀ a, a ≠ k → I' a = I a) : (wd G I).set k (G.1 + k, e) = wd G I' := by
  apply List.ext_getElem?
  intro a
  by_cases h : a = k
  · subst h
    rw [List.getElem?_set_self (by unfold wd; rw [List.length_append, wd1_len]; omega), wd_get hk, he]
  · rw [List.getElem?_set_ne (Ne.symm h)]
    by_cases ha : a < NN
    · rw [wd_get ha, wd_get ha, ho a h]
    · have hh : hi I' = hi I := by
        funext b
        exact ho (b + NN) (by omega)
      unfold wd
      rw [List.getElem?_append_right (by rw [wd1_len]; omega), List.getElem?_append_right (by rw [wd1_len]; omega), wd1_len, wd1_len, hh]
theorem ms_ne {I : Mem} {k j a : Nat} {v : Int32} (h : a ≠ k) : ms I k j v a = I a := by
  funext b
  simp [ms, h]
theorem ms_row {I : Mem} {k j : Nat} {v : Int32} : ms I k j v k = upd (I k) j v := by
  funext b
  simp [ms, upd]
theorem cell_O {G : Gx} {row : Nat → Int32} {k ci : Nat} (h : isO k ci) : cellR G row k = .inr (ci, (List.range (nf ci)).map (fV G row ci k)) := by
  simp only [cellR, h.2]
theorem fs_get {G : Gx} {row : Nat → Int32} {k ci j : Nat} (hj : j < nf ci) : ((List.range (nf ci)).map (fV G row ci k))[j]? = some (fV G row ci k j) := by simp [hj]
theorem fs_set {G : Gx} {row : Nat → Int32} {k ci j : Nat} {v : Int32} {w : Value} (hw : fV G (upd row j v) ci k j = w) : ((List.range (nf ci)).map (fV G row ci k)).set j w = (List.range (nf ci)).map (fV G (upd row j v) ci k) := by
  apply List.ext_getElem?
  intro a
  by_cases h : a = j
  · subst h
    by_cases ha : a < nf ci
    · rw [List.getElem?_set_self (by simpa using ha), fs_get ha, hw]
    · rw [List.getElem?_eq_none (by simp; omega), List.getElem?_eq_none (by simp; omega)]
  · rw [List.getElem?_set_ne (Ne.symm h)]
    by_cases ha : a < nf ci
    · rw [fs_get ha, fs_get ha]
      simp only [fV, upd, if_neg h]
    · rw [List.getElem?_eq_none (by simp; omega), List.getElem?_eq_none (by simp; omega)]
/-- what is known of a state: the classes, the arrays' classes, the tables' words, the script -/
def KK (G : Gx) (U : State) : Prop := va_K (Dg G) vwCl (tysG G) U ∧ TB U ∧ Gb G < G.1 ∧ va_X (Gb G) (Gl G) (Gs G) U U.heap
theorem va_X_lt {b n : Nat} {xs : Nat → Int32} {U : State} {H : Heap} (h : va_X b n xs U H) : b < H.size := by
  obtain ⟨scr, h1, -⟩ := h
  exact (Array.getElem?_eq_some_iff.mp h1).1
theorem KK.go {G : Gx} {s U : State} {H : Heap} {locs : List Loc} (h : KK G s) (hW : s.WarmedH U.vm) (hS : va_S (Ab G) s.heap H locs) (hU : U.heap = H) : KK G U := by
  obtain ⟨h1, h2, h3, h4⟩ := h
  refine ⟨va_K.moved hW.alike h1, TB.warm hW h2, h3, ?_⟩
  refine (va_X.moved hW.alike h4).kept ?_
  rw [hU]
  exact hS.2.1 _ (va_X_lt h4) (fun q => Nat.not_le.mpr h3 q.1)
theorem KK.lo {G : Gx} {U : State} (h : KK G U) : KK (loG G) U := h
theorem KK.sh {G : Gx} {U : State} (h : KK G U) : KK (shG G) U := ⟨h.1, h.2.1, Nat.lt_of_lt_of_le h.2.2.1 (Nat.le_add_right _ _), h.2.2.2⟩
def St (G : Gx) (I : Mem) (U : State) : Prop := Rep G I U.heap ∧ KK G U
/-! the judgement -/
abbrev Fr : Type := Program × Launch × Env × Room × State × MethodId × Array Value × List Frame × Method × Code
abbrev Zx : Type := Fr × Gx × Nat × Nat × (State → Prop)
abbrev zp (Z : Zx) : Program := Z.1.1
abbrev zl (Z : Zx) : Launch := Z.1.2.1
abbrev ze (Z : Zx) : Env := Z.1.2.2.1
abbrev zR (Z : Zx) : Room := Z.1.2.2.2.1
abbrev zs (Z : Zx) : State := Z.1.2.2.2.2.1
abbrev zm (Z : Zx) : MethodId := Z.1.2.2.2.2.2.1
abbrev za (Z : Zx) : Array Value := Z.1.2.2.2.2.2.2.1
abbrev zb (Z : Zx) : List Frame := Z.1.2.2.2.2.2.2.2.1
abbrev zh (Z : Zx) : Method := Z.1.2.2.2.2.2.2.2.2.1
abbrev zc (Z : Zx) : Code := Z.1.2.2.2.2.2.2.2.2.2
abbrev zG (Z : Zx) : Gx := Z.2.1
abbrev WZ (Z : Zx) (H : Heap) (locs : List Loc) (g : JFrame) : Prop := W (zp Z) (zl Z) (ze Z) (zR Z) (zs Z) (zm Z) (za Z) (zb Z) (zh Z) (zc Z) H locs Z.2.2.1 Z.2.2.2.1 Z.2.2.2.2 g
def WM (Z : Zx) (I : Mem) (pc : Nat) (L : List (Option Value)) (st : List Value) : Prop :=
  ∀ (H : Heap) (locs : List Loc) (ls : Array Slot), Rep (zG Z) I H → va_S (Ab (zG Z)) (zs Z).heap H locs → hasL ls L → WZ Z H locs (F0 (zm Z) pc ls st)
def WF {R : Type} (Z : Zx) (K : R → Prop) (e : Option R) (I : Mem) (pc : Nat) (L : List (Option Value)) (st : List Value) : Prop := ∀ x, e = some x → K x → WM Z I pc L st
/-- what stays fixed in a method's body -/
def Cx (Z : Zx) (cc : ByteArray) (nL : Nat) (own : String) : Prop :=
  (zp Z).tables.exec = Jvm.exec ∧ (zc Z).code = cc ∧ (zc Z).maxLocals = nL ∧ (zs Z).vm.findClass own = some (zm Z).cls ∧ (zh Z).locks = false ∧ KK (zG Z) (zs Z) ∧ Z.2.2.1 ≤ (zR Z).cells ∧ Z.2.2.2.1 ≤ (zR Z).slots
section CxS
variable {Z : Zx} {cc : ByteArray} {nL : Nat} {own : String}
theorem Cx.x (C : Cx Z cc nL own) : (zp Z).tables.exec = Jvm.exec := C.1
theorem Cx.b (C : Cx Z cc nL own) : (zc Z).code = cc := C.2.1
theorem Cx.ml (C : Cx Z cc nL own) : (zc Z).maxLocals = nL := C.2.2.1
theorem Cx.ow (C : Cx Z cc nL own) : (zs Z).vm.findClass own = some (zm Z).cls := C.2.2.2.1
theorem Cx.lk (C : Cx Z cc nL own) : (zh Z).locks = false := C.2.2.2.2.1
theorem Cx.kk (C : Cx Z cc nL own) : KK (zG Z) (zs Z) := C.2.2.2.2.2.1
theorem Cx.ts (C : Cx Z cc nL own) : ∀ w ∈ LT, w.before (za Z) (zs Z) = true := TB.use C.kk.2.1 _
theorem Cx.K (C : Cx Z cc nL own) : va_K (Dg (zG Z)) vwCl (tysG (zG Z)) (zs Z) := C.kk.1
theorem Cx.hc (C : Cx Z cc nL own) : Z.2.2.1 ≤ (zR Z).cells := C.2.2.2.2.2.2.1
theorem Cx.hs (C : Cx Z cc nL own) : Z.2.2.2.1 ≤ (zR Z).slots := C.2.2.2.2.2.2.2
end CxS
section ROWS
variable {Z : Zx} {cc : ByteArray} {nL : Nat} {own : String} {R : Type} {K : R → Prop} {e : Option R} {I : Mem} {pc q : Nat} {L : List (Option Value)} {st : List Value}
theorem w_iconst (C : Cx Z cc nL own) {n : Int} {v : Int32} (d : decode cc pc = .ok (.iconst n, 1)) (hv : Int32.ofInt n = v) (hq : pc + 1 = q) (k : WF Z K e I q L (.int v :: st)) : WF Z K e I pc L st :=
  fun x hx hk H locs ls hR hS hL => lv_iconst C.x C.b d hv (hq ▸ k x hx hk H locs ls hR hS hL)
theorem w_bipush (C : Cx Z cc nL own) {n : Int} {v : Int32} (d : decode cc pc = .ok (.bipush n, 2)) (hv : (Int8.ofInt n).toInt32 = v) (hq : pc + 2 = q) (k : WF Z K e I q L (.int v :: st)) : WF Z K e I pc L st :=
  fun x hx hk H locs ls hR hS hL => lv_bipush C.x C.b d hv (hq ▸ k x hx hk H locs ls hR hS hL)
theorem w_sipush (C : Cx Z cc nL own) {n : Int} {v : Int32} (d : decode cc pc = .ok (.sipush n, 3)) (hv : (Int16.ofInt n).toInt32 = v) (hq : pc + 3 = q) (k : WF Z K e I q L (.int v :: st)) : WF Z K e I pc L st :=
  fun x hx hk H locs ls hR hS hL => lv_sipush C.x C.b d hv (hq ▸ k x hx hk H locs ls hR hS hL)
theorem w_iload_n (C : Cx Z cc nL own) {n : Fin 4} {v : Int32} (d : decode cc pc = .ok (.iload_n n, 1)) (hl : L[(n : Nat)]? = some (some (.int v))) (hq : pc + 1 = q) (k : WF Z K e I q L (.int v :: st)) : WF Z K e I pc L st :=
  fun x hx hk H locs ls hR hS hL => lv_iload_n C.x C.b d rfl (hL.get hl) (hq ▸ k x hx hk H locs ls hR hS hL)
theorem w_iload (C : Cx Z cc nL own) {n : Nat} {v : Int32} (d : decode cc pc = .ok (.iload n, 2)) (hl : L[n]? = some (some (.int v))) (hq : pc + 2 = q) (k : WF Z K e I q L (.int v :: st)) : WF Z K e I pc L st :=
  fun x hx hk H locs ls hR hS hL => lv_iload C.x C.b d (hL.get hl) (hq ▸ k x hx hk H locs ls hR hS hL)
theorem w_aload_n (C : Cx Z cc nL own) {n : Fin 4} {v : Nat} (d : decode cc pc = .ok (.aload_n n, 1)) (hl : L[(n : Nat)]? = some (some (rf (zG Z) v))) (hq : pc + 1 = q) (k : WF Z K e I q L (rf (zG Z) v :: st)) : WF Z K e I pc L st :=
  fun x hx hk H locs ls hR hS hL => lv_aload_n C.x C.b d rfl (hL.get hl) (hq ▸ k x hx hk H locs ls hR hS hL)
theorem w_aload (C : Cx Z cc nL own) {n : Nat} {v : Nat} (d : decode cc pc = .ok (.aload n, 2)) (hl : L[n]? = some (some (rf (zG Z) v))) (hq : pc + 2 = q) (k : WF Z K e I q L (rf (zG Z) v :: st)) : WF Z K e I pc L st :=
  fun x hx hk H locs ls hR hS hL => lv_aload C.x C.b d (hL.get hl) (hq ▸ k x hx hk H locs ls hR hS hL)
theorem w_istore_n (C : Cx Z cc nL own) {n : Fin 4} {v : Int32} {L' : List (Option Value)} (d : decode cc pc = .ok (.istore_n n, 1)) (hn : (n : Nat) < L.length) (hl : L.set n (some (.int v)) = L') (hq : pc + 1 = q) (k : WF Z K e I q L' st) : WF Z K e I pc L (.int v :: st) :=
  fun x hx hk H locs ls hR hS hL => lv_istore_n C.x C.b d rfl hL.has hn rfl (fun ls' h' => hq ▸ k x hx hk H locs ls' hR hS (hl ▸ hasL.of hn rfl hL.cat h'))
theorem w_istore (C : Cx Z cc nL own) {n : Nat} {v : Int32} {L' : List (Option Value)} (d : decode cc pc = .ok (.istore n, 2)) (hn : n < L.length) (hl : L.set n (some (.int v)) = L') (hq : pc + 2 = q) (k : WF Z K e I q L' st) : WF Z K e I pc L (.int v :: st) :=
  fun x hx hk H locs ls hR hS hL => lv_istore C.x C.b d hL.has hn rfl (fun ls' h' => hq ▸ k x hx hk H locs ls' hR hS (hl ▸ hasL.of hn rfl hL.cat h'))
theorem w_astore_n (C : Cx Z cc nL own) {n : Fin 4} {v : Nat} {L' : List (Option Value)} (d : decode cc pc = .ok (.astore_n n, 1)) (hn : (n : Nat) < L.length) (hl : L.set n (some (rf (zG Z) v)) = L') (hq : pc + 1 = q) (k : WF Z K e I q L' st) : WF Z K e I pc L (rf (zG Z) v :: st) :=
  fun x hx hk H locs ls hR hS hL => lv_astore_n C.x C.b d rfl hL.has hn rfl (fun ls' h' => hq ▸ k x hx hk H locs ls' hR hS (hl ▸ hasL.of (v := rf (zG Z) v) hn rfl hL.cat h'))
theorem w_astore (C : Cx Z cc nL own) {n : Nat} {v : Nat} {L' : List (Option Value)} (d : decode cc pc = .ok (.astore n, 2)) (hn : n < L.length) (hl : L.set n (some (rf (zG Z) v)) = L') (hq : pc + 2 = q) (k : WF Z K e I q L' st) : WF Z K e I pc L (rf (zG Z) v :: st) :=
  fun x hx hk H locs ls hR hS hL => lv_astore C.x C.b d hL.has hn rfl (fun ls' h' => hq ▸ k x hx hk H locs ls' hR hS (hl ▸ hasL.of (v := rf (zG Z) v) hn rfl hL.cat h'))
theorem w_iinc (C : Cx Z cc nL own) {n : Nat} {a : Int} {x0 v : Int32} {L' : List (Option Value)} (d : decode cc pc = .ok (.iinc n a, 3)) (h0 : L[n]? = some (some (.int x0))) (hv : x0 + Int32.ofInt a = v) (hl : L.set n (some (.int v)) = L') (hq : pc + 3 = q) (k : WF Z K e I q L' st) : WF Z K e I pc L st := by
  intro x hx hk H locs ls hR hS hL
  have hn : n < L.length := (List.getElem?_eq_some_iff.mp h0).1
  obtain ⟨i, hi⟩ := List.getElem?_of_mem (enL_mem (q := (n, Value.int x0)).mpr h0)
  exact lv_iinc C.x C.b d hL.has hi hv hn rfl (fun ls' h' => hq ▸ k x hx hk H locs ls' hR hS (hl ▸ hasL.of hn rfl hL.cat h'))
theorem w_iadd (C : Cx Z cc nL own) {x y : Int32} (d : decode cc pc = .ok (.iadd, 1)) (hq : pc + 1 = q) (k : WF Z K e I q L (.int (x + y) :: st)) : WF Z K e I pc L (.int y :: .int x :: st) :=
  fun r hr hk H locs ls hR hS hL => lv_iadd C.x C.b d (hq ▸ k r hr hk H locs ls hR hS hL)
theorem w_isub (C : Cx Z cc nL own) {x y : Int32} (d : decode cc pc = .ok (.isub, 1)) (hq : pc + 1 = q) (k : WF Z K e I q L (.int (x - y) :: st)) : WF Z K e I pc L (.int y :: .int x :: st) :=
  fun r hr hk H locs ls hR hS hL => lv_isub C.x C.b d (hq ▸ k r hr hk H locs ls hR hS hL)
theorem w_imul (C : Cx Z cc nL own) {x y : Int32} (d : decode cc pc = .ok (.imul, 1)) (hq : pc + 1 = q) (k : WF Z K e I q L (.int (x * y) :: st)) : WF Z K e I pc L (.int y :: .int x :: st) :=
  fun r hr hk H locs ls hR hS hL => lv_imul C.x C.b d (hq ▸ k r hr hk H locs ls hR hS hL)
theorem w_iand (C : Cx Z cc nL own) {x y : Int32} (d : decode cc pc = .ok (.iand, 1)) (hq : pc + 1 = q) (k : WF Z K e I q L (.int (x &&& y) :: st)) : WF Z K e I pc L (.int y :: .int x :: st) :=
  fun r hr hk H locs ls hR hS hL => lv_iand C.x C.b d (hq ▸ k r hr hk H locs ls hR hS hL)
theorem w_ior (C : Cx Z cc nL own) {x y : Int32} (d : decode cc pc = .ok (.ior, 1)) (hq : pc + 1 = q) (k : WF Z K e I q L (.int (x ||| y) :: st)) : WF Z K e I pc L (.int y :: .int x :: st) :=
  fun r hr hk H locs ls hR hS hL => lv_ior C.x C.b d (hq ▸ k r hr hk H locs ls hR hS hL)
theorem w_ishl (C : Cx Z cc nL own) {x y : Int32} (d : decode cc pc = .ok (.ishl, 1)) (hq : pc + 1 = q) (k : WF Z K e I q L (.int (x <<< (y &&& 31)) :: st)) : WF Z K e I pc L (.int y :: .int x :: st) :=
  fun r hr hk H locs ls hR hS hL => lv_ishl C.x C.b d (hq ▸ k r hr hk H locs ls hR hS hL)
theorem w_ishr (C : Cx Z cc nL own) {x y : Int32} (d : decode cc pc = .ok (.ishr, 1)) (hq : pc + 1 = q) (k : WF Z K e I q L (.int (x >>> (y &&& 31)) :: st)) : WF Z K e I pc L (.int y :: .int x :: st) :=
  fun r hr hk H locs ls hR hS hL => lv_ishr C.x C.b d (hq ▸ k r hr hk H locs ls hR hS hL)
theorem w_idiv (C : Cx Z cc nL own) {x y : Int32} (d : decode cc pc = .ok (.idiv, 1)) (hq : pc + 1 = q) (k : WF Z K e I q L (.int (x / y) :: st)) : WF Z K (gd (decide (¬ y = 0)) e) I pc L (.int y :: .int x :: st) := by
  intro r hr hk H locs ls hR hS hL
  by_cases h : y = 0
  · simp [h, gd] at hr
  · have hr' : e = some r := by simpa [h, gd] using hr
    exact lv_idiv C.x C.b d h (hq ▸ k r hr' hk H locs ls hR hS hL)
theorem w_irem (C : Cx Z cc nL own) {x y : Int32} (d : decode cc pc = .ok (.irem, 1)) (hq : pc + 1 = q) (k : WF Z K e I q L (.int (x - x / y * y) :: st)) : WF Z K (gd (decide (¬ y = 0)) e) I pc L (.int y :: .int x :: st) := by
  intro r hr hk H locs ls hR hS hL
  by_cases h : y = 0
  · simp [h, gd] at hr
  · have hr' : e = some r := by simpa [h, gd] using hr
    exact lv_irem C.x C.b d h (hq ▸ k r hr' hk H locs ls hR hS hL)
theorem w_i2c (C : Cx Z cc nL own) {x : Int32} (d : decode cc pc = .ok (.i2c, 1)) (hq : pc + 1 = q) (k : WF Z K e I q L (.int ((x.toUInt32 % 65536).toInt32) :: st)) : WF Z K e I pc L (.int x :: st) :=
  fun r hr hk H locs ls hR hS hL => lv_i2c C.x C.b d rfl (hq ▸ k r hr hk H locs ls hR hS hL)
theorem w_i2l (C : Cx Z cc nL own) {x : Int32} (d : decode cc pc = .ok (.i2l, 1)) (hq : pc + 1 = q) (k : WF Z K e I q L (.long x.toInt64 :: st)) : WF Z K e I pc L (.int x :: st) :=
  fun r hr hk H locs ls hR hS hL => lv_i2l C.x C.b d rfl (hq ▸ k r hr hk H locs ls hR hS hL)
theorem w_lcmp (C : Cx Z cc nL own) {x y : Int64} (d : decode cc pc = .ok (.lcmp, 1)) (hq : pc + 1 = q) (k : WF Z K e I q L (.int (lg_cmp x y) :: st)) : WF Z K e I pc L (.long y :: .long x :: st) :=
  fun r hr hk H locs ls hR hS hL => W.lcmp C.x C.b d (hq ▸ k r hr hk H locs ls hR hS hL)
theorem w_dup (C : Cx Z cc nL own) {v : Value} (d : decode cc pc = .ok (.dup, 1)) (hc : v.category = 1) (hq : pc + 1 = q) (k : WF Z K e I q L (v :: v :: st)) : WF Z K e I pc L (v :: st) :=
  fun r hr hk H locs ls hR hS hL => lv_dup C.x C.b d hc (hq ▸ k r hr hk H locs ls hR hS hL)
theorem w_pop (C : Cx Z cc nL own) {v : Value} (d : decode cc pc = .ok (.pop, 1)) (hc : v.category = 1) (hq : pc + 1 = q) (k : WF Z K e I q L st) : WF Z K e I pc L (v :: st) :=
  fun r hr hk H locs ls hR hS hL => lv_pop C.x C.b d hc (hq ▸ k r hr hk H locs ls hR hS hL)
theorem w_dup2 (C : Cx Z cc nL own) {v w : Value} (d : decode cc pc = .ok (.dup2, 1)) (hv : v.category = 1) (hw : w.category = 1) (hq : pc + 1 = q) (k : WF Z K e I q L (v :: w :: v :: w :: st)) : WF Z K e I pc L (v :: w :: st) :=
  fun r hr hk H locs ls hR hS hL => lv_dup2_11 C.x C.b d hv hw (hq ▸ k r hr hk H locs ls hR hS hL)
theorem w_goto (C : Cx Z cc nL own) {off : Int} {tgt : Nat} (d : decode cc pc = .ok (.goto off, 3)) (ht : (pc : Int) + off = (tgt : Int)) (k : WF Z K e I tgt L st) : WF Z K e I pc L st :=
  fun r hr hk H locs ls hR hS hL => lv_goto C.x C.b d ht (k r hr hk H locs ls hR hS hL)
theorem w_if_eq (C : Cx Z cc nL own) {x : Int32} {off : Int} {tgt : Nat} {e1 e2 : Option R} {i0 : Decidable (x = 0)} (d : decode cc pc = .ok (.ifCond .eq off, 3)) (ht : (pc : Int) + off = (tgt : Int)) (hq : pc + 3 = q) (kt : x = 0 → WF Z K e1 I tgt L st) (kf : ¬ (x = 0) → WF Z K e2 I q L st) : WF Z K (@ite _ (x = 0) i0 e1 e2) I pc L (.int x :: st) :=
  fun r hr hk H locs ls hR hS hL => lv_if_eq C.x C.b d ht (fun c => kt c r (by rw [if_pos c] at hr; exact hr) hk H locs ls hR hS hL) (fun c => hq ▸ kf c r (by rw [if_neg c] at hr; exact hr) hk H locs ls hR hS hL)
theorem w_icmp_eq (C : Cx Z cc nL own) {x y : Int32} {off : Int} {tgt : Nat} {e1 e2 : Option R} {i0 : Decidable (x = y)} (d : decode cc pc = .ok (.if_icmp .eq off, 3)) (ht : (pc : Int) + off = (tgt : Int)) (hq : pc + 3 = q) (kt : x = y → WF Z K e1 I tgt L st) (kf : ¬ (x = y) → WF Z K e2 I q L st) : WF Z K (@ite _ (x = y) i0 e1 e2) I pc L (.int y :: .int x :: st) :=
  fun r hr hk H locs ls hR hS hL => lv_icmp_eq C.x C.b d ht (fun c => kt c r (by rw [if_pos c] at hr; exact hr) hk H locs ls hR hS hL) (fun c => hq ▸ kf c r (by rw [if_neg c] at hr; exact hr) hk H locs ls hR hS hL)
theorem w_if_ne (C : Cx Z cc nL own) {x : Int32} {off : Int} {tgt : Nat} {e1 e2 : Option R} {i0 : Decidable (x = 0)} (d : decode cc pc = .ok (.ifCond .ne off, 3)) (ht : (pc : Int) + off = (tgt : Int)) (hq : pc + 3 = q) (kf : x = 0 → WF Z K e1 I q L st) (kt : ¬ x = 0 → WF Z K e2 I tgt L st) : WF Z K (@ite _ (x = 0) i0 e1 e2) I pc L (.int x :: st) :=
  fun r hr hk H locs ls hR hS hL => lv_if_ne C.x C.b d ht (fun c => kt c r (by rw [if_neg c] at hr; exact hr) hk H locs ls hR hS hL) (fun c => hq ▸ kf c r (by rw [if_pos c] at hr; exact hr) hk H locs ls hR hS hL)
theorem w_icmp_ne (C : Cx Z cc nL own) {x y : Int32} {off : Int} {tgt : Nat} {e1 e2 : Option R} {i0 : Decidable (x = y)} (d : decode cc pc = .ok (.if_icmp .ne off, 3)) (ht : (pc : Int) + off = (tgt : Int)) (hq : pc + 3 = q) (kf : x = y → WF Z K e1 I q L st) (kt : ¬ x = y → WF Z K e2 I tgt L st) : WF Z K (@ite _ (x = y) i0 e1 e2) I pc L (.int y :: .int x :: st) :=
  fun r hr hk H locs ls hR hS hL => lv_icmp_ne C.x C.b d ht (fun c => kt c r (by rw [if_neg c] at hr; exact hr) hk H locs ls hR hS hL) (fun c => hq ▸ kf c r (by rw [if_pos c] at hr; exact hr) hk H locs ls hR hS hL)
theorem w_if_lt (C : Cx Z cc nL own) {x : Int32} {off : Int} {tgt : Nat} {e1 e2 : Option R} {i0 : Decidable (x < 0)} (d : decode cc pc = .ok (.ifCond .lt off, 3)) (ht : (pc : Int) + off = (tgt : Int)) (hq : pc + 3 = q) (kt : x < 0 → WF Z K e1 I tgt L st) (kf : ¬ (x < 0) → WF Z K e2 I q L st) : WF Z K (@ite _ (x < 0) i0 e1 e2) I pc L (.int x :: st) :=
  fun r hr hk H locs ls hR hS hL => lv_if_lt C.x C.b d ht (fun c => kt c r (by rw [if_pos c] at hr; exact hr) hk H locs ls hR hS hL) (fun c => hq ▸ kf c r (by rw [if_neg c] at hr; exact hr) hk H locs ls hR hS hL)
theorem w_icmp_lt (C : Cx Z cc nL own) {x y : Int32} {off : Int} {tgt : Nat} {e1 e2 : Option R} {i0 : Decidable (x < y)} (d : decode cc pc = .ok (.if_icmp .lt off, 3)) (ht : (pc : Int) + off = (tgt : Int)) (hq : pc + 3 = q) (kt : x < y → WF Z K e1 I tgt L st) (kf : ¬ (x < y) → WF Z K e2 I q L st) : WF Z K (@ite _ (x < y) i0 e1 e2) I pc L (.int y :: .int x :: st) :=
  fun r hr hk H locs ls hR hS hL => lv_icmp_lt C.x C.b d ht (fun c => kt c r (by rw [if_pos c] at hr; exact hr) hk H locs ls hR hS hL) (fun c => hq ▸ kf c r (by rw [if_neg c] at hr; exact hr) hk H locs ls hR hS hL)
theorem w_if_ge (C : Cx Z cc nL own) {x : Int32} {off : Int} {tgt : Nat} {e1 e2 : Option R} {i0 : Decidable (0 ≤ x)} (d : decode cc pc = .ok (.ifCond .ge off, 3)) (ht : (pc : Int) + off = (tgt : Int)) (hq : pc + 3 = q) (kt : 0 ≤ x → WF Z K e1 I tgt L st) (kf : ¬ (0 ≤ x) → WF Z K e2 I q L st) : WF Z K (@ite _ (0 ≤ x) i0 e1 e2) I pc L (.int x :: st) :=
  fun r hr hk H locs ls hR hS hL => lv_if_ge C.x C.b d ht (fun c => kt c r (by rw [if_pos c] at hr; exact hr) hk H locs ls hR hS hL) (fun c => hq ▸ kf c r (by rw [if_neg c] at hr; exact hr) hk H locs ls hR hS hL)
theorem w_icmp_ge (C : Cx Z cc nL own) {x y : Int32} {off : Int} {tgt : Nat} {e1 e2 : Option R} {i0 : Decidable (y ≤ x)} (d : decode cc pc = .ok (.if_icmp .ge off, 3)) (ht : (pc : Int) + off = (tgt : Int)) (hq : pc + 3 = q) (kt : y ≤ x → WF Z K e1 I tgt L st) (kf : ¬ (y ≤ x) → WF Z K e2 I q L st) : WF Z K (@ite _ (y ≤ x) i0 e1 e2) I pc L (.int y :: .int x :: st) :=
  fun r hr hk H locs ls hR hS hL => lv_icmp_ge C.x C.b d ht (fun c => kt c r (by rw [if_pos c] at hr; exact hr) hk H locs ls hR hS hL) (fun c => hq ▸ kf c r (by rw [if_neg c] at hr; exact hr) hk H locs ls hR hS hL)
theorem w_if_gt (C : Cx Z cc nL own) {x : Int32} {off : Int} {tgt : Nat} {e1 e2 : Option R} {i0 : Decidable (0 < x)} (d : decode cc pc = .ok (.ifCond .gt off, 3)) (ht : (pc : Int) + off = (tgt : Int)) (hq : pc + 3 = q) (kt : 0 < x → WF Z K e1 I tgt L st) (kf : ¬ (0 < x) → WF Z K e2 I q L st) : WF Z K (@ite _ (0 < x) i0 e1 e2) I pc L (.int x :: st) :=
  fun r hr hk H locs ls hR hS hL => lv_if_gt C.x C.b d ht (fun c => kt c r (by rw [if_pos c] at hr; exact hr) hk H locs ls hR hS hL) (fun c => hq ▸ kf c r (by rw [if_neg c] at hr; exact hr) hk H locs ls hR hS hL)
theorem w_icmp_gt (C : Cx Z cc nL own) {x y : Int32} {off : Int} {tgt : Nat} {e1 e2 : Option R} {i0 : Decidable (y < x)} (d : decode cc pc = .ok (.if_icmp .gt off, 3)) (ht : (pc : Int) + off = (tgt : Int)) (hq : pc + 3 = q) (kt : y < x → WF Z K e1 I tgt L st) (kf : ¬ (y < x) → WF Z K e2 I q L st) : WF Z K (@ite _ (y < x) i0 e1 e2) I pc L (.int y :: .int x :: st) :=
  fun r hr hk H locs ls hR hS hL => lv_icmp_gt C.x C.b d ht (fun c => kt c r (by rw [if_pos c] at hr; exact hr) hk H locs ls hR hS hL) (fun c => hq ▸ kf c r (by rw [if_neg c] at hr; exact hr) hk H locs ls hR hS hL)
theorem w_if_le (C : Cx Z cc nL own) {x : Int32} {off : Int} {tgt : Nat} {e1 e2 : Option R} {i0 : Decidable (x ≤ 0)} (d : decode cc pc = .ok (.ifCond .le off, 3)) (ht : (pc : Int) + off = (tgt : Int)) (hq : pc + 3 = q) (kt : x ≤ 0 → WF Z K e1 I tgt L st) (kf : ¬ (x ≤ 0) → WF Z K e2 I q L st) : WF Z K (@ite _ (x ≤ 0) i0 e1 e2) I pc L (.int x :: st) :=
  fun r hr hk H locs ls hR hS hL => lv_if_le C.x C.b d ht (fun c => kt c r (by rw [if_pos c] at hr; exact hr) hk H locs ls hR hS hL) (fun c => hq ▸ kf c r (by rw [if_neg c] at hr; exact hr) hk H locs ls hR hS hL)
theorem w_icmp_le (C : Cx Z cc nL own) {x y : Int32} {off : Int} {tgt : Nat} {e1 e2 : Option R} {i0 : Decidable (x ≤ y)} (d : decode cc pc = .ok (.if_icmp .le off, 3)) (ht : (pc : Int) + off = (tgt : Int)) (hq : pc + 3 = q) (kt : x ≤ y → WF Z K e1 I tgt L st) (kf : ¬ (x ≤ y) → WF Z K e2 I q L st) : WF Z K (@ite _ (x ≤ y) i0 e1 e2) I pc L (.int y :: .int x :: st) :=
  fun r hr hk H locs ls hR hS hL => lv_icmp_le C.x C.b d ht (fun c => kt c r (by rw [if_pos c] at hr; exact hr) hk H locs ls hR hS hL) (fun c => hq ▸ kf c r (by rw [if_neg c] at hr; exact hr) hk H locs ls hR hS hL)
end ROWS
