def strs : List (String × Nat × String) := [("Segmentry", 72, "tag, least or most is not as told"), ("Segmentry", 83, "there are 10 items"), ("Segmentry", 90, "least or most is not as told"), ("Segmentry", 96, "a loop is open"), ("Segmentry", 105, "no loop is open, or it has no items"), ("Segmentry", 121, "the letter is not from 32 to 126"), ("Segmentry", 126, "the text has 300 letters"), ("Segmentry", 266, "no such fault"), ("Segmentry", 161, "no message was accepted yet"), ("Segmentry", 268, "there is no accepted message"), ("Segmentry", 270, "no such segment"), ("Segmentry", 272, "no such element"), ("Segmentry", 194, "no such letter"), ("Segmentry", 207, "no such item"), ("Segmentry", 209, "tag is not as told"), ("Segmentry", 212, "there are 10 rules"), ("Segmentry", 274, "no such rule"), ("Segmentry", 221, "element is out of range"), ("Segmentry", 232, "the rule has 5 fields"), ("Segmentry", 237, "element or letter is out of range"), ("Segmentry", 246, "9999 messages were written"), ("Segmentry", 252, "the message would have too many segments or letters"), ("Segmentry", 257, "the text would have more than 300 letters")]
/-! the persistent objects: the world that a memory stands for -/
abbrev Gx : Type := Nat × (Nat → ClassId) × (Nat → Nat → Nat) × (Nat → ClassId)
def rf (G : Gx) (k : Nat) : Value := .ref (G.1 + k)
def fV (G : Gx) (row : Nat → Int32) (ci k j : Nat) : Value := match fk ci j with
  | 0 => .int (row j)
  | 1 => .ref (G.1 + tgt k j)
  | _ => .ref (G.1 + (row j).toNatClampNeg)
def cellR (G : Gx) (row : Nat → Int32) (k : Nat) : va_E := match lay k with
  | (0, ci, _) => .inr (ci, (List.range (nf ci)).map (fV G row ci k))
  | (1, n, _) => .inl (G.2.2.2 0, n, .inl row)
  | (2, n, _) => .inl (G.2.2.2 1, n, .inl row)
  | (3, n, _) => .inl (G.2.2.2 2, n, .inl row)
  | (4, n, _) => .inl (G.2.2.2 3, n, .inr (.inl (fun i => (row i).toInt64)))
  | (t + 5, n, _) => .inl (G.2.2.2 (t + 4), n, .inr (.inr (.inr (.inr (fun i => some (G.1 + tgt k i))))))
def wd (G : Gx) (I : Mem) : va_W := (List.range NN).map (fun k => (G.1 + k, cellR G (I k) k))
def Dg (G : Gx) : va_G := (G.2.1, G.2.2.1)
def tysG (G : Gx) : List (ClassId × FieldType) := (List.range arT.length).map (fun t => (G.2.2.2 t, arT.getD t .int))
def Ab (G : Gx) : Nat → Prop := fun q => G.1 ≤ q
def Rep (G : Gx) (I : Mem) (H : Heap) : Prop := va_P (Dg G) vwCl (wd G I) H
theorem wd_get {G : Gx} {I : Mem} {k : Nat} (hk : k < NN) : (wd G I)[k]? = some (G.1 + k, cellR G (I k) k) := by
  simp [wd, hk]
theorem wd_apart {G : Gx} {I : Mem} : va_D (Ab G) (wd G I) := by
  refine ⟨fun i j p q hi hj hpq => ?_, fun k q hq => ?_⟩
  · have li := (List.getElem?_eq_some_iff.mp hi).1
    have lj := (List.getElem?_eq_some_iff.mp hj).1
    simp only [wd, List.length_map, List.length_range] at li lj
    rw [wd_get li] at hi
    rw [wd_get lj] at hj
    cases hi
    cases hj
    simp only at hpq
    omega
  · have lk := (List.getElem?_eq_some_iff.mp hq).1
    simp only [wd, List.length_map, List.length_range] at lk
    rw [wd_get lk] at hq
    cases hq
    exact Nat.le_add_right _ _
theorem wd_set {G : Gx} {I I' : Mem} {k : Nat} {e : va_E} (hk : k < NN) (he : cellR G (I' k) k = e) (ho : ∀ a, a ≠ k → I' a = I a) : (wd G I).set k (G.1 + k, e) = wd G I' := by
  apply List.ext_getElem?
  intro a
  by_cases h : a = k
  · subst h
    rw [List.getElem?_set_self (by simp [wd, hk]), wd_get hk, he]
  · rw [List.getElem?_set_ne (Ne.symm h)]
    by_cases ha : a < NN
    · rw [wd_get ha, wd_get ha, ho a h]
    · rw [List.getElem?_eq_none (by simp [wd]; omega), List.getElem?_eq_none (by simp [wd]; omega)]
theorem ms_ne {I : Mem} {k j a : Nat} {v : Int32} (h : a ≠ k) : ms I k j v a = I a := by
  funext b
  simp [ms, h]
theorem ms_row {I : Mem} {k j : Nat} {v : Int32} : ms I k j v k = upd (I k) j v := by
  funext b
  simp [ms, upd]
theorem cell_O {G : Gx} {row : Nat → Int32} {k ci : Nat} (h : isO k ci) : cellR G row k = .inr (ci, (List.range (nf ci)).map (fV G row ci k)) := by
  simp only [cellR, h.2]
theorem fs_get {G : Gx} {row : Nat → Int32} {k ci j : Nat} (hj : j < nf ci) : ((List.range (nf ci)).map (fV G row ci k))[j]? = some (fV G row ci k j) := by simp [hj]
theorem fs_set {G : Gx} {row : Nat → Int32} {k ci j : Nat} {v : Int32} {w : Value} (hw : fV G (upd row j v) ci k j = w) : ((List.range (nf ci)).map (fV G row ci k)).set j w = (List.range (nf ci)).map (fV G (upd row j v) ci k) := by
  apply List.ext_getElem?
  intro a
  by_cases h : a = j
  · subst h
    by_cases ha : a < nf ci
    · rw [List.getElem?_set_self (by simpa using ha), fs_get ha, hw]
    · rw [List.getElem?_eq_none (by simp; omega), List.getElem?_eq_none (by simp; omega)]
  · rw [List.getElem?_set_ne (Ne.symm h)]
    by_cases ha : a < nf ci
    · rw [fs_get ha, fs_get ha]
      simp only [fV, upd, if_neg h]
    · rw [List.getElem?_eq_none (by simp; omega), List.getElem?_eq_none (by simp; omega)]
/-- what is known of a state: the classes, the arrays' classes, the tables' words, the two statics of Throwable, the texts -/
def KK (G : Gx) (U : State) : Prop := va_K (Dg G) vwCl (tysG G) U ∧ TB U ∧ vx_Zq Bundle.tN "UNASSIGNED_STACK" Bundle.steD (Ab G) U U.heap ∧ vx_Zq Bundle.tN "SUPPRESSED_SENTINEL" Bundle.listD (Ab G) U U.heap ∧ ∀ q ∈ strs, ∃ sa, vk_R q.1 q.2.1 q.2.2 sa U
theorem KK.go {G : Gx} {s U : State} {H : Heap} {locs : List Loc} (h : KK G s) (hW : s.WarmedH U.vm) (hS : va_S (Ab G) s.heap H locs) (hU : U.heap = H) : KK G U := by
  obtain ⟨h1, h2, h3, h4, h5⟩ := h
  refine ⟨va_K.moved hW.alike h1, TB.warm hW h2, ?_, ?_, fun q hq => ?_⟩
  · rw [hU]; exact vx_Zq.moved hW.alike (h3.kept hS.2.1)
  · rw [hU]; exact vx_Zq.moved hW.alike (h4.kept hS.2.1)
  · obtain ⟨sa, h⟩ := h5 q hq
    exact ⟨sa, vk_R.warm hW h⟩
def St (G : Gx) (I : Mem) (U : State) : Prop := Rep G I U.heap ∧ KK G U
/-! the judgement -/
abbrev Fr : Type := Program × Launch × Env × Room × State × MethodId × Array Value × List Frame × Method × Code
abbrev Zx : Type := Fr × Gx × Nat × Nat × (State → Prop)
abbrev zp (Z : Zx) : Program := Z.1.1
abbrev zl (Z : Zx) : Launch := Z.1.2.1
abbrev ze (Z : Zx) : Env := Z.1.2.2.1
abbrev zR (Z : Zx) : Room := Z.1.2.2.2.1
abbrev zs (Z : Zx) : State := Z.1.2.2.2.2.1
abbrev zm (Z : Zx) : MethodId := Z.1.2.2.2.2.2.1
abbrev za (Z : Zx) : Array Value := Z.1.2.2.2.2.2.2.1
abbrev zb (Z : Zx) : List Frame := Z.1.2.2.2.2.2.2.2.1
abbrev zh (Z : Zx) : Method := Z.1.2.2.2.2.2.2.2.2.1
abbrev zc (Z : Zx) : Code := Z.1.2.2.2.2.2.2.2.2.2
abbrev zG (Z : Zx) : Gx := Z.2.1
abbrev WZ (Z : Zx) (H : Heap) (locs : List Loc) (g : JFrame) : Prop := W (zp Z) (zl Z) (ze Z) (zR Z) (zs Z) (zm Z) (za Z) (zb Z) (zh Z) (zc Z) H locs Z.2.2.1 Z.2.2.2.1 Z.2.2.2.2 g
def WM (Z : Zx) (I : Mem) (pc : Nat) (L : List (Option Value)) (st : List Value) : Prop :=
  ∀ (H : Heap) (locs : List Loc) (ls : Array Slot), Rep (zG Z) I H → va_S (Ab (zG Z)) (zs Z).heap H locs → hasL ls L → WZ Z H locs (F0 (zm Z) pc ls st)
def WF {R : Type} (Z : Zx) (K : R → Prop) (e : Option R) (I : Mem) (pc : Nat) (L : List (Option Value)) (st : List Value) : Prop := ∀ x, e = some x → K x → WM Z I pc L st
/-- what stays fixed in a method's body -/
def Cx (Z : Zx) (cc : ByteArray) (nL : Nat) (own : String) : Prop :=
  (zp Z).tables.exec = Jvm.exec ∧ (zc Z).code = cc ∧ (zc Z).maxLocals = nL ∧ (zs Z).vm.findClass own = some (zm Z).cls ∧ (zh Z).locks = false ∧ KK (zG Z) (zs Z) ∧ Z.2.2.1 ≤ (zR Z).cells ∧ Z.2.2.2.1 ≤ (zR Z).slots
section CxS
variable {Z : Zx} {cc : ByteArray} {nL : Nat} {own : String}
theorem Cx.x (C : Cx Z cc nL own) : (zp Z).tables.exec = Jvm.exec := C.1
theorem Cx.b (C : Cx Z cc nL own) : (zc Z).code = cc := C.2.1
theorem Cx.ml (C : Cx Z cc nL own) : (zc Z).maxLocals = nL := C.2.2.1
theorem Cx.ow (C : Cx Z cc nL own) : (zs Z).vm.findClass own = some (zm Z).cls := C.2.2.2.1
theorem Cx.lk (C : Cx Z cc nL own) : (zh Z).locks = false := C.2.2.2.2.1
theorem Cx.kk (C : Cx Z cc nL own) : KK (zG Z) (zs Z) := C.2.2.2.2.2.1
theorem Cx.ts (C : Cx Z cc nL own) : ∀ w ∈ LT, w.before (za Z) (zs Z) = true := TB.use C.kk.2.1 _
theorem Cx.K (C : Cx Z cc nL own) : va_K (Dg (zG Z)) vwCl (tysG (zG Z)) (zs Z) := C.kk.1
theorem Cx.hc (C : Cx Z cc nL own) : Z.2.2.1 ≤ (zR Z).cells := C.2.2.2.2.2.2.1
theorem Cx.hs (C : Cx Z cc nL own) : Z.2.2.2.1 ≤ (zR Z).slots := C.2.2.2.2.2.2.2
end CxS
section ROWS
variable {Z : Zx} {cc : ByteArray} {nL : Nat} {own : String} {R : Type} {K : R → Prop} {e : Option R} {I : Mem} {pc q : Nat} {L : List (Option Value)} {st : List Value}
theorem w_iconst (C : Cx Z cc nL own) {n : Int} {v : Int32} (d : decode cc pc = .ok (.iconst n, 1)) (hv : Int32.ofInt n = v) (hq : pc + 1 = q) (k : WF Z K e I q L (.int v :: st)) : WF Z K e I pc L st :=
  fun x hx hk H locs ls hR hS hL => lv_iconst C.x C.b d hv (hq ▸ k x hx hk H locs ls hR hS hL)
theorem w_bipush (C : Cx Z cc nL own) {n : Int} {v : Int32} (d : decode cc pc = .ok (.bipush n, 2)) (hv : (Int8.ofInt n).toInt32 = v) (hq : pc + 2 = q) (k : WF Z K e I q L (.int v :: st)) : WF Z K e I pc L st :=
  fun x hx hk H locs ls hR hS hL => lv_bipush C.x C.b d hv (hq ▸ k x hx hk H locs ls hR hS hL)
theorem w_sipush (C : Cx Z cc nL own) {n : Int} {v : Int32} (d : decode cc pc = .ok (.sipush n, 3)) (hv : (Int16.ofInt n).toInt32 = v) (hq : pc + 3 = q) (k : WF Z K e I q L (.int v :: st)) : WF Z K e I pc L st :=
  fun x hx hk H locs ls hR hS hL => lv_sipush C.x C.b d hv (hq ▸ k x hx hk H locs ls hR hS hL)
theorem w_iload_n (C : Cx Z cc nL own) {n : Fin 4} {v : Int32} (d : decode cc pc = .ok (.iload_n n, 1)) (hl : L[(n : Nat)]? = some (some (.int v))) (hq : pc + 1 = q) (k : WF Z K e I q L (.int v :: st)) : WF Z K e I pc L st :=
  fun x hx hk H locs ls hR hS hL => lv_iload_n C.x C.b d rfl (hL.get hl) (hq ▸ k x hx hk H locs ls hR hS hL)
theorem w_iload (C : Cx Z cc nL own) {n : Nat} {v : Int32} (d : decode cc pc = .ok (.iload n, 2)) (hl : L[n]? = some (some (.int v))) (hq : pc + 2 = q) (k : WF Z K e I q L (.int v :: st)) : WF Z K e I pc L st :=
  fun x hx hk H locs ls hR hS hL => lv_iload C.x C.b d (hL.get hl) (hq ▸ k x hx hk H locs ls hR hS hL)
theorem w_aload_n (C : Cx Z cc nL own) {n : Fin 4} {v : Nat} (d : decode cc pc = .ok (.aload_n n, 1)) (hl : L[(n : Nat)]? = some (some (rf (zG Z) v))) (hq : pc + 1 = q) (k : WF Z K e I q L (rf (zG Z) v :: st)) : WF Z K e I pc L st :=
  fun x hx hk H locs ls hR hS hL => lv_aload_n C.x C.b d rfl (hL.get hl) (hq ▸ k x hx hk H locs ls hR hS hL)
theorem w_aload (C : Cx Z cc nL own) {n : Nat} {v : Nat} (d : decode cc pc = .ok (.aload n, 2)) (hl : L[n]? = some (some (rf (zG Z) v))) (hq : pc + 2 = q) (k : WF Z K e I q L (rf (zG Z) v :: st)) : WF Z K e I pc L st :=
  fun x hx hk H locs ls hR hS hL => lv_aload C.x C.b d (hL.get hl) (hq ▸ k x hx hk H locs ls hR hS hL)
theorem w_istore_n (C : Cx Z cc nL own) {n : Fin 4} {v : Int32} {L' : List (Option Value)} (d : decode cc pc = .ok (.istore_n n, 1)) (hn : (n : Nat) < L.length) (hl : L.set n (some (.int v)) = L') (hq : pc + 1 = q) (k : WF Z K e I q L' st) : WF Z K e I pc L (.int v :: st) :=
  fun x hx hk H locs ls hR hS hL => lv_istore_n C.x C.b d rfl hL.has hn rfl (fun ls' h' => hq ▸ k x hx hk H locs ls' hR hS (hl ▸ hasL.of hn rfl hL.cat h'))
theorem w_istore (C : Cx Z cc nL own) {n : Nat} {v : Int32} {L' : List (Option Value)} (d : decode cc pc = .ok (.istore n, 2)) (hn : n < L.length) (hl : L.set n (some (.int v)) = L') (hq : pc + 2 = q) (k : WF Z K e I q L' st) : WF Z K e I pc L (.int v :: st) :=
  fun x hx hk H locs ls hR hS hL => lv_istore C.x C.b d hL.has hn rfl (fun ls' h' => hq ▸ k x hx hk H locs ls' hR hS (hl ▸ hasL.of hn rfl hL.cat h'))
theorem w_astore_n (C : Cx Z cc nL own) {n : Fin 4} {v : Nat} {L' : List (Option Value)} (d : decode cc pc = .ok (.astore_n n, 1)) (hn : (n : Nat) < L.length) (hl : L.set n (some (rf (zG Z) v)) = L') (hq : pc + 1 = q) (k : WF Z K e I q L' st) : WF Z K e I pc L (rf (zG Z) v :: st) :=
  fun x hx hk H locs ls hR hS hL => lv_astore_n C.x C.b d rfl hL.has hn rfl (fun ls' h' => hq ▸ k x hx hk H locs ls' hR hS (hl ▸ hasL.of (v := rf (zG Z) v) hn rfl hL.cat h'))
theorem w_astore (C : Cx Z cc nL own) {n : Nat} {v : Nat} {L' : List (Option Value)} (d : decode cc pc = .ok (.astore n, 2)) (hn : n < L.length) (hl : L.set n (some (rf (zG Z) v)) = L') (hq : pc + 2 = q) (k : WF Z K e I q L' st) : WF Z K e I pc L (rf (zG Z) v :: st) :=
  fun x hx hk H locs ls hR hS hL => lv_astore C.x C.b d hL.has hn rfl (fun ls' h' => hq ▸ k x hx hk H locs ls' hR hS (hl ▸ hasL.of (v := rf (zG Z) v) hn rfl hL.cat h'))
theorem w_iinc (C : Cx Z cc nL own) {n : Nat} {a : Int} {x0 v : Int32} {L' : List (Option Value)} (d : decode cc pc = .ok (.iinc n a, 3)) (h0 : L[n]? = some (some (.int x0))) (hv : x0 + Int32.ofInt a = v) (hl : L.set n (some (.int v)) = L') (hq : pc + 3 = q) (k : WF Z K e I q L' st) : WF Z K e I pc L st := by
  intro x hx hk H locs ls hR hS hL
  have hn : n < L.length := (List.getElem?_eq_some_iff.mp h0).1
  obtain ⟨i, hi⟩ := List.getElem?_of_mem (enL_mem (q := (n, Value.int x0)).mpr h0)
  exact lv_iinc C.x C.b d hL.has hi hv hn rfl (fun ls' h' => hq ▸ k x hx hk H locs ls' hR hS (hl ▸ hasL.of hn rfl hL.cat h'))
theorem w_iadd (C : Cx Z cc nL own) {x y : Int32} (d : decode cc pc = .ok (.iadd, 1)) (hq : pc + 1 = q) (k : WF Z K e I q L (.int (x + y) :: st)) : WF Z K e I pc L (.int y :: .int x :: st) :=
  fun r hr hk H locs ls hR hS hL => lv_iadd C.x C.b d (hq ▸ k r hr hk H locs ls hR hS hL)
theorem w_isub (C : Cx Z cc nL own) {x y : Int32} (d : decode cc pc = .ok (.isub, 1)) (hq : pc + 1 = q) (k : WF Z K e I q L (.int (x - y) :: st)) : WF Z K e I pc L (.int y :: .int x :: st) :=
  fun r hr hk H locs ls hR hS hL => lv_isub C.x C.b d (hq ▸ k r hr hk H locs ls hR hS hL)
theorem w_imul (C : Cx Z cc nL own) {x y : Int32} (d : decode cc pc = .ok (.imul, 1)) (hq : pc + 1 = q) (k : WF Z K e I q L (.int (x * y) :: st)) : WF Z K e I pc L (.int y :: .int x :: st) :=
  fun r hr hk H locs ls hR hS hL => lv_imul C.x C.b d (hq ▸ k r hr hk H locs ls hR hS hL)
theorem w_iand (C : Cx Z cc nL own) {x y : Int32} (d : decode cc pc = .ok (.iand, 1)) (hq : pc + 1 = q) (k : WF Z K e I q L (.int (x &&& y) :: st)) : WF Z K e I pc L (.int y :: .int x :: st) :=
  fun r hr hk H locs ls hR hS hL => lv_iand C.x C.b d (hq ▸ k r hr hk H locs ls hR hS hL)
theorem w_ior (C : Cx Z cc nL own) {x y : Int32} (d : decode cc pc = .ok (.ior, 1)) (hq : pc + 1 = q) (k : WF Z K e I q L (.int (x ||| y) :: st)) : WF Z K e I pc L (.int y :: .int x :: st) :=
  fun r hr hk H locs ls hR hS hL => lv_ior C.x C.b d (hq ▸ k r hr hk H locs ls hR hS hL)
theorem w_ishl (C : Cx Z cc nL own) {x y : Int32} (d : decode cc pc = .ok (.ishl, 1)) (hq : pc + 1 = q) (k : WF Z K e I q L (.int (x <<< (y &&& 31)) :: st)) : WF Z K e I pc L (.int y :: .int x :: st) :=
  fun r hr hk H locs ls hR hS hL => lv_ishl C.x C.b d (hq ▸ k r hr hk H locs ls hR hS hL)
theorem w_ishr (C : Cx Z cc nL own) {x y : Int32} (d : decode cc pc = .ok (.ishr, 1)) (hq : pc + 1 = q) (k : WF Z K e I q L (.int (x >>> (y &&& 31)) :: st)) : WF Z K e I pc L (.int y :: .int x :: st) :=
  fun r hr hk H locs ls hR hS hL => lv_ishr C.x C.b d (hq ▸ k r hr hk H locs ls hR hS hL)
theorem w_idiv (C : Cx Z cc nL own) {x y : Int32} (d : decode cc pc = .ok (.idiv, 1)) (hq : pc + 1 = q) (k : WF Z K e I q L (.int (x / y) :: st)) : WF Z K (gd (decide (¬ y = 0)) e) I pc L (.int y :: .int x :: st) := by
  intro r hr hk H locs ls hR hS hL
  by_cases h : y = 0
  · simp [h, gd] at hr
  · have hr' : e = some r := by simpa [h, gd] using hr
    exact lv_idiv C.x C.b d h (hq ▸ k r hr' hk H locs ls hR hS hL)
theorem w_irem (C : Cx Z cc nL own) {x y : Int32} (d : decode cc pc = .ok (.irem, 1)) (hq : pc + 1 = q) (k : WF Z K e I q L (.int (x - x / y * y) :: st)) : WF Z K (gd (decide (¬ y = 0)) e) I pc L (.int y :: .int x :: st) := by
  intro r hr hk H locs ls hR hS hL
  by_cases h : y = 0
  · simp [h, gd] at hr
  · have hr' : e = some r := by simpa [h, gd] using hr
    exact lv_irem C.x C.b d h (hq ▸ k r hr' hk H locs ls hR hS hL)
theorem w_i2c (C : Cx Z cc nL own) {x : Int32} (d : decode cc pc = .ok (.i2c, 1)) (hq : pc + 1 = q) (k : WF Z K e I q L (.int ((x.toUInt32 % 65536).toInt32) :: st)) : WF Z K e I pc L (.int x :: st) :=
  fun r hr hk H locs ls hR hS hL => lv_i2c C.x C.b d rfl (hq ▸ k r hr hk H locs ls hR hS hL)
theorem w_i2l (C : Cx Z cc nL own) {x : Int32} (d : decode cc pc = .ok (.i2l, 1)) (hq : pc + 1 = q) (k : WF Z K e I q L (.long x.toInt64 :: st)) : WF Z K e I pc L (.int x :: st) :=
  fun r hr hk H locs ls hR hS hL => lv_i2l C.x C.b d rfl (hq ▸ k r hr hk H locs ls hR hS hL)
theorem w_lcmp (C : Cx Z cc nL own) {x y : Int64} (d : decode cc pc = .ok (.lcmp, 1)) (hq : pc + 1 = q) (k : WF Z K e I q L (.int (lg_cmp x y) :: st)) : WF Z K e I pc L (.long y :: .long x :: st) :=
  fun r hr hk H locs ls hR hS hL => W.lcmp C.x C.b d (hq ▸ k r hr hk H locs ls hR hS hL)
theorem w_dup (C : Cx Z cc nL own) {v : Value} (d : decode cc pc = .ok (.dup, 1)) (hc : v.category = 1) (hq : pc + 1 = q) (k : WF Z K e I q L (v :: v :: st)) : WF Z K e I pc L (v :: st) :=
  fun r hr hk H locs ls hR hS hL => lv_dup C.x C.b d hc (hq ▸ k r hr hk H locs ls hR hS hL)
theorem w_pop (C : Cx Z cc nL own) {v : Value} (d : decode cc pc = .ok (.pop, 1)) (hc : v.category = 1) (hq : pc + 1 = q) (k : WF Z K e I q L st) : WF Z K e I pc L (v :: st) :=
  fun r hr hk H locs ls hR hS hL => lv_pop C.x C.b d hc (hq ▸ k r hr hk H locs ls hR hS hL)
theorem w_dup2 (C : Cx Z cc nL own) {v w : Value} (d : decode cc pc = .ok (.dup2, 1)) (hv : v.category = 1) (hw : w.category = 1) (hq : pc + 1 = q) (k : WF Z K e I q L (v :: w :: v :: w :: st)) : WF Z K e I pc L (v :: w :: st) :=
  fun r hr hk H locs ls hR hS hL => lv_dup2_11 C.x C.b d hv hw (hq ▸ k r hr hk H locs ls hR hS hL)
theorem w_goto (C : Cx Z cc nL own) {off : Int} {tgt : Nat} (d : decode cc pc = .ok (.goto off, 3)) (ht : (pc : Int) + off = (tgt : Int)) (k : WF Z K e I tgt L st) : WF Z K e I pc L st :=
  fun r hr hk H locs ls hR hS hL => lv_goto C.x C.b d ht (k r hr hk H locs ls hR hS hL)
theorem w_if_eq (C : Cx Z cc nL own) {x : Int32} {off : Int} {tgt : Nat} {e1 e2 : Option R} {i0 : Decidable (x = 0)} (d : decode cc pc = .ok (.ifCond .eq off, 3)) (ht : (pc : Int) + off = (tgt : Int)) (hq : pc + 3 = q) (kt : x = 0 → WF Z K e1 I tgt L st) (kf : ¬ (x = 0) → WF Z K e2 I q L st) : WF Z K (@ite _ (x = 0) i0 e1 e2) I pc L (.int x :: st) :=
  fun r hr hk H locs ls hR hS hL => lv_if_eq C.x C.b d ht (fun c => kt c r (by rw [if_pos c] at hr; exact hr) hk H locs ls hR hS hL) (fun c => hq ▸ kf c r (by rw [if_neg c] at hr; exact hr) hk H locs ls hR hS hL)
theorem w_icmp_eq (C : Cx Z cc nL own) {x y : Int32} {off : Int} {tgt : Nat} {e1 e2 : Option R} {i0 : Decidable (x = y)} (d : decode cc pc = .ok (.if_icmp .eq off, 3)) (ht : (pc : Int) + off = (tgt : Int)) (hq : pc + 3 = q) (kt : x = y → WF Z K e1 I tgt L st) (kf : ¬ (x = y) → WF Z K e2 I q L st) : WF Z K (@ite _ (x = y) i0 e1 e2) I pc L (.int y :: .int x :: st) :=
  fun r hr hk H locs ls hR hS hL => lv_icmp_eq C.x C.b d ht (fun c => kt c r (by rw [if_pos c] at hr; exact hr) hk H locs ls hR hS hL) (fun c => hq ▸ kf c r (by rw [if_neg c] at hr; exact hr) hk H locs ls hR hS hL)
theorem w_if_ne (C : Cx Z cc nL own) {x : Int32} {off : Int} {tgt : Nat} {e1 e2 : Option R} {i0 : Decidable (x = 0)} (d : decode cc pc = .ok (.ifCond .ne off, 3)) (ht : (pc : Int) + off = (tgt : Int)) (hq : pc + 3 = q) (kf : x = 0 → WF Z K e1 I q L st) (kt : ¬ x = 0 → WF Z K e2 I tgt L st) : WF Z K (@ite _ (x = 0) i0 e1 e2) I pc L (.int x :: st) :=
  fun r hr hk H locs ls hR hS hL => lv_if_ne C.x C.b d ht (fun c => kt c r (by rw [if_neg c] at hr; exact hr) hk H locs ls hR hS hL) (fun c => hq ▸ kf c r (by rw [if_pos c] at hr; exact hr) hk H locs ls hR hS hL)
theorem w_icmp_ne (C : Cx Z cc nL own) {x y : Int32} {off : Int} {tgt : Nat} {e1 e2 : Option R} {i0 : Decidable (x = y)} (d : decode cc pc = .ok (.if_icmp .ne off, 3)) (ht : (pc : Int) + off = (tgt : Int)) (hq : pc + 3 = q) (kf : x = y → WF Z K e1 I q L st) (kt : ¬ x = y → WF Z K e2 I tgt L st) : WF Z K (@ite _ (x = y) i0 e1 e2) I pc L (.int y :: .int x :: st) :=
  fun r hr hk H locs ls hR hS hL => lv_icmp_ne C.x C.b d ht (fun c => kt c r (by rw [if_neg c] at hr; exact hr) hk H locs ls hR hS hL) (fun c => hq ▸ kf c r (by rw [if_pos c] at hr; exact hr) hk H locs ls hR hS hL)
theorem w_if_lt (C : Cx Z cc nL own) {x : Int32} {off : Int} {tgt : Nat} {e1 e2 : Option R} {i0 : Decidable (x < 0)} (d : decode cc pc = .ok (.ifCond .lt off, 3)) (ht : (pc : Int) + off = (tgt : Int)) (hq : pc + 3 = q) (kt : x < 0 → WF Z K e1 I tgt L st) (kf : ¬ (x < 0) → WF Z K e2 I q L st) : WF Z K (@ite _ (x < 0) i0 e1 e2) I pc L (.int x :: st) :=
  fun r hr hk H locs ls hR hS hL => lv_if_lt C.x C.b d ht (fun c => kt c r (by rw [if_pos c] at hr; exact hr) hk H locs ls hR hS hL) (fun c => hq ▸ kf c r (by rw [if_neg c] at hr; exact hr) hk H locs ls hR hS hL)
theorem w_icmp_lt (C : Cx Z cc nL own) {x y : Int32} {off : Int} {tgt : Nat} {e1 e2 : Option R} {i0 : Decidable (x < y)} (d : decode cc pc = .ok (.if_icmp .lt off, 3)) (ht : (pc : Int) + off = (tgt : Int)) (hq : pc + 3 = q) (kt : x < y → WF Z K e1 I tgt L st) (kf : ¬ (x < y) → WF Z K e2 I q L st) : WF Z K (@ite _ (x < y) i0 e1 e2) I pc L (.int y :: .int x :: st) :=
  fun r hr hk H locs ls hR hS hL => lv_icmp_lt C.x C.b d ht (fun c => kt c r (by rw [if_pos c] at hr; exact hr) hk H locs ls hR hS hL) (fun c => hq ▸ kf c r (by rw [if_neg c] at hr; exact hr) hk H locs ls hR hS hL)
theorem w_if_ge (C : Cx Z cc nL own) {x : Int32} {off : Int} {tgt : Nat} {e1 e2 : Option R} {i0 : Decidable (0 ≤ x)} (d : decode cc pc = .ok (.ifCond .ge off, 3)) (ht : (pc : Int) + off = (tgt : Int)) (hq : pc + 3 = q) (kt : 0 ≤ x → WF Z K e1 I tgt L st) (kf : ¬ (0 ≤ x) → WF Z K e2 I q L st) : WF Z K (@ite _ (0 ≤ x) i0 e1 e2) I pc L (.int x :: st) :=
  fun r hr hk H locs ls hR hS hL => lv_if_ge C.x C.b d ht (fun c => kt c r (by rw [if_pos c] at hr; exact hr) hk H locs ls hR hS hL) (fun c => hq ▸ kf c r (by rw [if_neg c] at hr; exact hr) hk H locs ls hR hS hL)
theorem w_icmp_ge (C : Cx Z cc nL own) {x y : Int32} {off : Int} {tgt : Nat} {e1 e2 : Option R} {i0 : Decidable (y ≤ x)} (d : decode cc pc = .ok (.if_icmp .ge off, 3)) (ht : (pc : Int) + off = (tgt : Int)) (hq : pc + 3 = q) (kt : y ≤ x → WF Z K e1 I tgt L st) (kf : ¬ (y ≤ x) → WF Z K e2 I q L st) : WF Z K (@ite _ (y ≤ x) i0 e1 e2) I pc L (.int y :: .int x :: st) :=
  fun r hr hk H locs ls hR hS hL => lv_icmp_ge C.x C.b d ht (fun c => kt c r (by rw [if_pos c] at hr; exact hr) hk H locs ls hR hS hL) (fun c => hq ▸ kf c r (by rw [if_neg c] at hr; exact hr) hk H locs ls hR hS hL)
theorem w_if_gt (C : Cx Z cc nL own) {x : Int32} {off : Int} {tgt : Nat} {e1 e2 : Option R} {i0 : Decidable (0 < x)} (d : decode cc pc = .ok (.ifCond .gt off, 3)) (ht : (pc : Int) + off = (tgt : Int)) (hq : pc + 3 = q) (kt : 0 < x → WF Z K e1 I tgt L st) (kf : ¬ (0 < x) → WF Z K e2 I q L st) : WF Z K (@ite _ (0 < x) i0 e1 e2) I pc L (.int x :: st) :=
  fun r hr hk H locs ls hR hS hL => lv_if_gt C.x C.b d ht (fun c => kt c r (by rw [if_pos c] at hr; exact hr) hk H locs ls hR hS hL) (fun c => hq ▸ kf c r (by rw [if_neg c] at hr; exact hr) hk H locs ls hR hS hL)
theorem w_icmp_gt (C : Cx Z cc nL own) {x y : Int32} {off : Int} {tgt : Nat} {e1 e2 : Option R} {i0 : Decidable (y < x)} (d : decode cc pc = .ok (.if_icmp .gt off, 3)) (ht : (pc : Int) + off = (tgt : Int)) (hq : pc + 3 = q) (kt : y < x → WF Z K e1 I tgt L st) (kf : ¬ (y < x) → WF Z K e2 I q L st) : WF Z K (@ite _ (y < x) i0 e1 e2) I pc L (.int y :: .int x :: st) :=
  fun r hr hk H locs ls hR hS hL => lv_icmp_gt C.x C.b d ht (fun c => kt c r (by rw [if_pos c] at hr; exact hr) hk H locs ls hR hS hL) (fun c => hq ▸ kf c r (by rw [if_neg c] at hr; exact hr) hk H locs ls hR hS hL)
theorem w_if_le (C : Cx Z cc nL own) {x : Int32} {off : Int} {tgt : Nat} {e1 e2 : Option R} {i0 : Decidable (x ≤ 0)} (d : decode cc pc = .ok (.ifCond .le off, 3)) (ht : (pc : Int) + off = (tgt : Int)) (hq : pc + 3 = q) (kt : x ≤ 0 → WF Z K e1 I tgt L st) (kf : ¬ (x ≤ 0) → WF Z K e2 I q L st) : WF Z K (@ite _ (x ≤ 0) i0 e1 e2) I pc L (.int x :: st) :=
  fun r hr hk H locs ls hR hS hL => lv_if_le C.x C.b d ht (fun c => kt c r (by rw [if_pos c] at hr; exact hr) hk H locs ls hR hS hL) (fun c => hq ▸ kf c r (by rw [if_neg c] at hr; exact hr) hk H locs ls hR hS hL)
theorem w_icmp_le (C : Cx Z cc nL own) {x y : Int32} {off : Int} {tgt : Nat} {e1 e2 : Option R} {i0 : Decidable (x ≤ y)} (d : decode cc pc = .ok (.if_icmp .le off, 3)) (ht : (pc : Int) + off = (tgt : Int)) (hq : pc + 3 = q) (kt : x ≤ y → WF Z K e1 I tgt L st) (kf : ¬ (x ≤ y) → WF Z K e2 I q L st) : WF Z K (@ite _ (x ≤ y) i0 e1 e2) I pc L (.int y :: .int x :: st) :=
  fun r hr hk H locs ls hR hS hL => lv_icmp_le C.x C.b d ht (fun c => kt c r (by rw [if_pos c] at hr; exact hr) hk H locs ls hR hS hL) (fun c => hq ▸ kf c r (by rw [if_neg c] at hr; exact hr) hk H locs ls hR hS hL)
end ROWS
