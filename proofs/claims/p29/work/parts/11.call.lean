/-! contracts over the whole memory; entry, ends, calls -/
def rm0c (fr lo : Nat) : Room := { frames := fr, cells := 0, slots := 0, locals := lo }
def Qct (G : Gx) (rv : Option Value) (I' : Mem) : Array Value → State → Outcome → State → Prop := fun _ st o t => (o = .returned rv ∧ Rep G I' t.heap) ∧ va_F (Ab G) st t
def Ct (l : Launch) (G : Gx) (y : MethodName) (cc : ByteArray) (maxL : Nat) (ret : Option FieldType) (fr lo : Nat) (av : List Value) (I : Mem) (rv : Option Value) (I' : Mem) : Prop :=
  Met l y [.code y cc maxL ret] (rm0c fr lo) (va_Pc av (St G I)) (Qct G rv I') 0 0 (Ab G)
theorem St.blind {G : Gx} {I : Mem} {av : List Value} : FrameBlind (va_Pc av (St G I)) := by
  intro a U g mk h
  obtain ⟨h1, h2, h3⟩ := h
  exact ⟨h1, h2, h3.go (s := U) (locs := []) (State.WarmedH.refl U) va_S.rf rfl⟩
def RM (Z : Zx) (FR LO : Nat) : Prop := (zR Z).frames = FR ∧ (zR Z).locals = LO
/-- the same place with other counts of cells and slots -/
abbrev Zb (Z : Zx) (c n : Nat) : Zx := (Z.1, Z.2.1, c, n, Z.2.2.2.2)
def RetI (Z : Zx) (cc : ByteArray) (ty : FieldType) (v : Int32) (I : Mem) : Prop := ∀ (c n pc : Nat) (L : List (Option Value)), c ≤ (zR Z).cells → n ≤ (zR Z).slots → decode cc pc = .ok (.ireturn, 1) → narrow ty (.int v) = .int v → WM (Zb Z c n) I pc L [.int v]
def RetV (Z : Zx) (cc : ByteArray) (I : Mem) : Prop := ∀ (c n pc : Nat) (L : List (Option Value)), c ≤ (zR Z).cells → n ≤ (zR Z).slots → decode cc pc = .ok (.return_, 1) → WM (Zb Z c n) I pc L []
def RetA (Z : Zx) (cc : ByteArray) (k : Nat) (I : Mem) : Prop := ∀ (c n pc : Nat) (L : List (Option Value)), c ≤ (zR Z).cells → n ≤ (zR Z).slots → decode cc pc = .ok (.areturn, 1) → WM (Zb Z c n) I pc L [rf (zG Z) k]
/-- what a body's end gives, by the kind of its answer -/
def RetOf (Z : Zx) (cc : ByteArray) (ret : Option FieldType) (rv : Option Value) (I : Mem) : Prop := match ret, rv with
  | none, none => RetV Z cc I
  | some ty, some (.int v) => RetI Z cc ty v I
  | some _, some (.ref a) => ∀ k, a = (zG Z).1 + k → RetA Z cc k I
  | _, _ => True
theorem Ct.of {l : Launch} {G : Gx} {y : MethodName} {cc : ByteArray} {maxL : Nat} {ret : Option FieldType} {fr lo : Nat} {av : List Value} {I : Mem} {rv : Option Value} {I' : Mem} (hy : plainName y.cls = true) (hcat : (av.all fun v => v.category == 1) = true) (hlen : av.length ≤ maxL)
    (hret : ∀ ty v, ret = some ty → rv = some v → (∃ x, v = .int x) ∨ ((∃ n, ty = .object n) ∨ ∃ t, ty = .array t))
    (body : ∀ Z : Zx, zG Z = G → zl Z = l → Cx Z cc maxL y.cls → RM Z fr lo → RetOf Z cc ret rv I' → WM Z I 0 (av.map some ++ List.replicate (maxL - av.length) none) []) : Ct l G y cc maxL ret fr lo av I rv I' := by
  have hcat : ∀ v ∈ av, v.category = 1 := fun v hv => by simpa using List.all_eq_true.mp hcat v hv
  refine Met.ofW (cc := cc) (maxL := maxL) (ret := ret) hy rfl ?_
  intro p e s m args below meth c s₁ B hml hv
  obtain ⟨rfl, hR, hKK⟩ := hv
  have hown : s.vm.findClass y.cls = some m.cls := findClass_of_methodNamed B.named
  rw [lg_entry_eq]
  refine body ((p, l, e, _, s, m, av.toArray, below, meth, c), G, 0, 0, MQ below (Qct G rv I') av.toArray s 0 0 (Ab G)) rfl rfl ⟨B.exec, B.bytes, hml, hown, B.notSynchronized, hKK, Nat.zero_le _, Nat.zero_le _⟩ ⟨rfl, rfl⟩ ?_ s.heap [] _ hR va_S.rf (hasL.entry av maxL hcat hlen)
  have hb : c.code = cc := B.bytes
  have hr := B.returns
  have hx := B.exec
  have hlocks := B.notSynchronized
  unfold RetOf
  split
  · next =>
    intro c9 n9 pc L l1 l2 d H locs ls hR hS hL
    obtain rfl : c9 = 0 := Nat.le_zero.mp l1
    obtain rfl : n9 = 0 := Nat.le_zero.mp l2
    exact W.vret hx hb hr (fun t ht hW => ⟨⟨rfl, by rw [ht]; exact hR⟩, hS.F ht⟩) hS.2.2 d
  · next ty v =>
    intro c9 n9 pc L l1 l2 d hn H locs ls hR hS hL
    obtain rfl : c9 = 0 := Nat.le_zero.mp l1
    obtain rfl : n9 = 0 := Nat.le_zero.mp l2
    exact W.zret hx hb hr hn (fun t ht hW => ⟨⟨rfl, by rw [ht]; exact hR⟩, hS.F ht⟩) hS.2.2 d
  · next ty a =>
    intro k hk c9 n9 pc L l1 l2 d H locs ls hR hS hL
    obtain rfl : c9 = 0 := Nat.le_zero.mp l1
    obtain rfl : n9 = 0 := Nat.le_zero.mp l2
    have hk' : a = G.1 + k := hk
    subst hk'
    refine W.aret (rt := ty) hx hb hr ?_ (Or.inr ⟨_, rfl⟩) (fun t ht hW => ⟨⟨rfl, by rw [ht]; exact hR⟩, hS.F ht⟩) hS.2.2 d
    rcases hret ty _ rfl rfl with ⟨x, h⟩ | h
    · cases h
    · exact h
  · trivial
def lessL : List (Option Value) → List (Option Value) → Prop
  | [], [] => True
  | none :: t', _ :: t => lessL t' t
  | some v :: t', w :: t => w = some v ∧ lessL t' t
  | _, _ => False
theorem lessL.to : ∀ {L' L : List (Option Value)}, lessL L' L → L'.length = L.length ∧ ∀ (i : Nat) (v : Value), L'[i]? = some (some v) → L[i]? = some (some v)
  | [], [], _ => ⟨rfl, fun i v h => by simp at h⟩
  | none :: t', w :: t, h => by
    obtain ⟨h1, h2⟩ := lessL.to (L' := t') (L := t) h
    refine ⟨by simp [h1], fun i v hi => ?_⟩
    cases i with
    | zero => simp at hi
    | succ i => simpa using h2 i v (by simpa using hi)
  | some v0 :: t', w :: t, h => by
    obtain ⟨h0, h⟩ := h
    obtain ⟨h1, h2⟩ := lessL.to (L' := t') (L := t) h
    refine ⟨by simp [h1], fun i v hi => ?_⟩
    cases i with
    | zero => simpa [h0] using hi
    | succ i => simpa using h2 i v (by simpa using hi)
  | [], _ :: _, h => h.elim
  | none :: _, [], h => h.elim
  | some _ :: _, [], h => h.elim
section CR
variable {Z : Zx} {cc : ByteArray} {nL : Nat} {own : String} {R : Type} {K : R → Prop} {e : Option R} {I : Mem} {pc q : Nat} {L : List (Option Value)} {st : List Value}
theorem w_iret (C : Cx Z cc nL own) {v : Int32} {x : R} {ty : FieldType} (hK : K x → RetI Z cc ty v I) (hn : narrow ty (.int v) = .int v) (d : decode cc pc = .ok (.ireturn, 1)) : WF Z K (some x) I pc L [.int v] := by
  intro y hy hk
  cases hy
  exact hK hk _ _ pc L C.hc C.hs d hn
theorem w_vret (C : Cx Z cc nL own) {x : R} (hK : K x → RetV Z cc I) (d : decode cc pc = .ok (.return_, 1)) : WF Z K (some x) I pc L [] := by
  intro y hy hk
  cases hy
  exact hK hk _ _ pc L C.hc C.hs d
theorem w_aret (C : Cx Z cc nL own) {k : Nat} {x : R} (hK : K x → RetA Z cc k I) (d : decode cc pc = .ok (.areturn, 1)) : WF Z K (some x) I pc L [rf (zG Z) k] := by
  intro y hy hk
  cases hy
  exact hK hk _ _ pc L C.hc C.hs d
/-- on to a place that is proved already -/
theorem w_jmp {x : R} (hK : K x → WM Z I pc L st) : WF Z K (some x) I pc L st := by
  intro y hy hk
  cases hy
  exact hK hk
theorem WM.less {L' : List (Option Value)} (h : WM Z I pc L' st) (hl : lessL L' L) : WM Z I pc L st :=
  fun H locs ls hR hS hL => h H locs ls hR hS (hL.less hl.to.1 hl.to.2)
theorem WF.less {L' : List (Option Value)} (h : WF Z K e I pc L' st) (hl : lessL L' L) : WF Z K e I pc L st :=
  fun x hx hk => (h x hx hk).less hl
/-- a loop: its body, from the head, comes to the head again or leaves -/
def loopK {α β : Type} (hd : α → Prop) (E : β → Prop) : α ⊕ β → Prop := fun y => match y with
  | .inl a => hd a
  | .inr b => E b
theorem w_loop {α β : Type} {body : α → Option (α ⊕ β)} {hd : α → Prop} {E : β → Prop} (hb : ∀ a y, body a = some y → loopK hd E y → hd a) : ∀ (n : Nat) (a : α) (b : β), loopF body n a = some b → E b → hd a
  | 0, a, b, h, _ => by cases h
  | n + 1, a, b, h, hE => by
    cases hy : body a with
    | none => simp [loopF, hy] at h
    | some y =>
      cases y with
      | inl a' =>
        simp only [loopF, hy] at h
        exact hb a (.inl a') hy (w_loop hb n a' b h hE)
      | inr b' =>
        simp only [loopF, hy, Option.some.injEq] at h
        subst h
        exact hb a (.inr b') hy hE
theorem w_loopF {α β : Type} {body : α → Option (α ⊕ β)} {mem : α → Mem} {lo : α → List (Option Value)} {a : α} {rest : β → Option R} {E : β → Prop} (hb : ∀ a, WF Z (loopK (fun a => WM Z (mem a) pc (lo a) []) E) (body a) (mem a) pc (lo a) [])
    (hx : ∀ b x, rest b = some x → K x → E b) : WF Z K (Option.bind (loopF body FU a) rest) (mem a) pc (lo a) [] := by
  intro x hx1 hk
  obtain ⟨b, h1, h2⟩ := Option.bind_eq_some_iff.mp hx1
  exact w_loop (hd := fun a => WM Z (mem a) pc (lo a) []) (E := E) (fun a y h h' => hb a y h h') FU a b h1 (hx b x h2 hk)
theorem w_idivL (C : Cx Z cc nL own) {x y : Int32} (hne : ¬ y = 0) (d : decode cc pc = .ok (.idiv, 1)) (hq : pc + 1 = q) (k : WF Z K e I q L (.int (x / y) :: st)) : WF Z K e I pc L (.int y :: .int x :: st) :=
  fun r hr hk H locs ls hR hS hL => lv_idiv C.x C.b d hne (hq ▸ k r hr hk H locs ls hR hS hL)
theorem w_iremL (C : Cx Z cc nL own) {x y : Int32} (hne : ¬ y = 0) (d : decode cc pc = .ok (.irem, 1)) (hq : pc + 1 = q) (k : WF Z K e I q L (.int (x - x / y * y) :: st)) : WF Z K e I pc L (.int y :: .int x :: st) :=
  fun r hr hk H locs ls hR hS hL => lv_irem C.x C.b d hne (hq ▸ k r hr hk H locs ls hR hS hL)
theorem w_mmax (C : Cx Z cc nL own) {FR LO : Nat} (hR : RM Z FR LO) {idx : Nat} {x y : Int32} (lnk : Cond.methodLink own idx Lib.Math.max.name ∈ LT) (m1 : Cond.static Lib.Math.max.name ∈ LT) (m2 : Cond.initialized "java/lang/Math" ∈ LT) (m3 : Cond.code Lib.Math.max.name Lib.Math.max.code 2 (some .int) ∈ LT)
    (hfr : 1 ≤ FR) (hlo : (st.map fun v => v.category).sum + 13 ≤ LO) (hL : L.length = nL) (d : decode cc pc = .ok (.invokestatic idx, 3)) (hq : pc + 3 = q) (k : WF Z K e I q L (.int (if x < y then y else x) :: st)) : WF Z K e I pc L (.int y :: .int x :: st) :=
  fun r hr hk H locs ls hRp hS hLs => va_mmax C.x C.b (by rw [C.ml, hLs.1, hL]) C.ow (C.ts _ lnk) (C.ts _ m1) (C.ts _ m2) (C.ts _ m3) (by rw [hR.1]; exact hfr) (by rw [hR.2]; exact hlo) C.hc C.hs d (hq ▸ k r hr hk H locs ls hRp hS hLs)
theorem w_mmin (C : Cx Z cc nL own) {FR LO : Nat} (hR : RM Z FR LO) {idx : Nat} {x y : Int32} (lnk : Cond.methodLink own idx Lib.Math.min.name ∈ LT) (m1 : Cond.static Lib.Math.min.name ∈ LT) (m2 : Cond.initialized "java/lang/Math" ∈ LT) (m3 : Cond.code Lib.Math.min.name Lib.Math.min.code 2 (some .int) ∈ LT)
    (hfr : 1 ≤ FR) (hlo : (st.map fun v => v.category).sum + 13 ≤ LO) (hL : L.length = nL) (d : decode cc pc = .ok (.invokestatic idx, 3)) (hq : pc + 3 = q) (k : WF Z K e I q L (.int (if y < x then y else x) :: st)) : WF Z K e I pc L (.int y :: .int x :: st) :=
  fun r hr hk H locs ls hRp hS hLs => va_mmin C.x C.b (by rw [C.ml, hLs.1, hL]) C.ow (C.ts _ lnk) (C.ts _ m1) (C.ts _ m2) (C.ts _ m3) (by rw [hR.1]; exact hfr) (by rw [hR.2]; exact hlo) C.hc C.hs d (hq ▸ k r hr hk H locs ls hRp hS hLs)
/-! calls -/
abbrev MVp (ci : Nat) (y : MethodName) (bytes : ByteArray) (maxL : Nat) (ret : Option FieldType) (n : Nat) : Prop :=
  (∃ T N, vwCl[ci]? = some (y.cls, T, N)) ∧ Cond.instanceMethod y ∈ LT ∧ Cond.selects y.cls y y ∈ LT ∧ Cond.initialized y.cls ∈ LT ∧ Cond.code y bytes maxL ret ∈ LT ∧
  (y.cls ≠ "java/lang/invoke/MethodHandle" ∧ y.cls ≠ "java/lang/invoke/VarHandle" ∧ (parseMethodDescriptor y.desc).map (fun d => d.parameters.length) = some n)
abbrev MSp (y : MethodName) (bytes : ByteArray) (maxL : Nat) (ret : Option FieldType) (n : Nat) : Prop :=
  Cond.static y ∈ LT ∧ Cond.initialized y.cls ∈ LT ∧ Cond.code y bytes maxL ret ∈ LT ∧
  (y.cls ≠ "java/lang/invoke/MethodHandle" ∧ y.cls ≠ "java/lang/invoke/VarHandle" ∧ (parseMethodDescriptor y.desc).map (fun d => d.parameters.length) = some n)
theorem wm_run {rv : Option Value} {I' : Mem} {H : Heap} {locs : List Loc} {ls : Array Slot} {st0 : List Value} (hS : va_S (Ab (zG Z)) (zs Z).heap H locs) (hL : hasL ls L)
    (hr : va_Run (zp Z) (zl Z) (ze Z) (zR Z) (zs Z) (zm Z) (za Z) (zb Z) (zh Z) (zc Z) H locs Z.2.2.1 Z.2.2.2.1 0 0 (F0 (zm Z) pc ls st0) st (fun st o t => (o = .returned rv ∧ Rep (zG Z) I' t.heap) ∧ va_F (Ab (zG Z)) st t) (Ab (zG Z)))
    (k : WM Z I' (pc + 3) L (rv.toList ++ st)) : WZ Z H locs (F0 (zm Z) pc ls st0) := by
  intro T hT X
  obtain ⟨v, st₀, t, T', Lx, h0, X', hLx, e1, e2, ⟨⟨hv, hst⟩, hF⟩, go⟩ := hr T hT X
  have hv' : v = rv := by injection hv
  subst hv'
  obtain ⟨hz, hk⟩ := hF
  rw [h0] at hz hk
  obtain ⟨t2, a1, b1⟩ := k T'.heap (locs ++ Lx) ls (by rw [e1]; exact hst)
    ⟨Nat.le_trans hS.1 (by rw [e1]; exact hz), fun q h1 h2 => by rw [e1, hk q (Nat.lt_of_lt_of_le h1 hS.1) h2]; exact hS.2.1 q h1 h2, fun q hq => by
      rcases List.mem_append.mp hq with h | h
      · exact hS.2.2 q h
      · exact hLx q h⟩ hL T' rfl X'
  exact ⟨t2, go t2 a1, b1⟩
theorem w_callV (C : Cx Z cc nL own) {FR LO : Nat} (hR : RM Z FR LO) {ci idx maxL fr lo n k : Nat} {y : MethodName} {bytes : ByteArray} {ret : Option FieldType} {As st0 : List Value} {X : Type} {f : Option X} {val : X → Option Value} {mem : X → Mem} {rest : X → Option R}
    (hc : ∀ x, f = some x → Ct (zl Z) (zG Z) y bytes maxL ret fr lo (rf (zG Z) k :: As) I (val x) (mem x)) (hk : isO k ci) (mv : MVp ci y bytes maxL ret n) (lnk : Cond.methodLink own idx y ∈ LT) (hn : As.length = n) (hfr : fr + 1 ≤ FR ∧ 8 + (maxL + 11) + lo ≤ LO)
    {st1 : X → List Value} (hst1 : ∀ x, (val x).toList ++ st = st1 x) (hroom : (st.map fun v => v.category).sum ≤ 8) (hst : st0 = As.reverse ++ rf (zG Z) k :: st) (hL : L.length = nL) (d : decode cc pc = .ok (.invokevirtual idx, 3)) (hq : pc + 3 = q) (kk : ∀ x, WF Z K (rest x) (mem x) q L (st1 x)) : WF Z K (Option.bind f rest) I pc L st0 := by
  intro r hr hkr H locs ls hRp hS hLs
  obtain ⟨x, h1, h2⟩ := Option.bind_eq_some_iff.mp hr
  subst hst
  obtain ⟨⟨T, N, hcl⟩, mi, msel, mini, mcode, md⟩ := mv
  have hts := C.ts
  refine wm_run hS hLs (va_runV (As := As) (rest := st) (C := y.cls) ⟨C.x, C.b, C.ml, C.ow, hts⟩ (hc x h1)
    ⟨callB_of n hts (GoodIn.one mcode rfl) rfl rfl rfl (hts _ mini) (hts _ lnk) md (by rw [hR.1, hR.2]; exact hfr), hts _ mi, hts _ msel⟩
    ⟨St.blind, va_recv C.K hRp hcl (by rw [wd_get hk.1, cell_O hk]), fun U hU hW => ⟨rfl, by rw [hU]; exact hRp, C.kk.go hW hS hU⟩⟩ rfl hn (by rw [hLs.1]; exact hL) rfl (lv_room hroom) d ⟨by have := C.hc; exact this, by have := C.hs; exact this⟩) ?_
  rw [hst1]
  exact hq ▸ kk x r h2 hkr
theorem w_callS (C : Cx Z cc nL own) {FR LO : Nat} (hR : RM Z FR LO) {idx maxL fr lo n : Nat} {y : MethodName} {bytes : ByteArray} {ret : Option FieldType} {As st0 : List Value} {X : Type} {f : Option X} {val : X → Option Value} {mem : X → Mem} {rest : X → Option R}
    (hc : ∀ x, f = some x → Ct (zl Z) (zG Z) y bytes maxL ret fr lo As I (val x) (mem x)) (mv : MSp y bytes maxL ret n) (lnk : Cond.methodLink own idx y ∈ LT) (hn : As.length = n) (hfr : fr + 1 ≤ FR ∧ 8 + (maxL + 11) + lo ≤ LO)
    {st1 : X → List Value} (hst1 : ∀ x, (val x).toList ++ st = st1 x) (hroom : (st.map fun v => v.category).sum ≤ 8) (hst : st0 = As.reverse ++ st) (hL : L.length = nL) (d : decode cc pc = .ok (.invokestatic idx, 3)) (hq : pc + 3 = q) (kk : ∀ x, WF Z K (rest x) (mem x) q L (st1 x)) : WF Z K (Option.bind f rest) I pc L st0 := by
  intro r hr hkr H locs ls hRp hS hLs
  obtain ⟨x, h1, h2⟩ := Option.bind_eq_some_iff.mp hr
  subst hst
  obtain ⟨mi, mini, mcode, md⟩ := mv
  have hts := C.ts
  refine wm_run hS hLs (va_runS (As := As) (rest := st) ⟨C.x, C.b, C.ml, C.ow, hts⟩ (hc x h1)
    ⟨callB_of n hts (GoodIn.one mcode rfl) rfl rfl rfl (hts _ mini) (hts _ lnk) md (by rw [hR.1, hR.2]; exact hfr), hts _ mi⟩
    ⟨St.blind, fun U hU hW => ⟨rfl, by rw [hU]; exact hRp, C.kk.go hW hS hU⟩⟩ rfl hn (by rw [hLs.1]; exact hL) rfl (lv_room hroom) d ⟨by have := C.hc; exact this, by have := C.hs; exact this⟩) ?_
  rw [hst1]
  exact hq ▸ kk x r h2 hkr
theorem w_callSN (C : Cx Z cc nL own) {FR LO : Nat} (hR : RM Z FR LO) {idx maxL fr lo n : Nat} {y : MethodName} {host : String} {bytes : ByteArray} {ret : Option FieldType} {As st0 : List Value} {X : Type} {f : Option X} {val : X → Option Value} {mem : X → Mem} {rest : X → Option R}
    (hc : ∀ x, f = some x → Ct (zl Z) (zG Z) y bytes maxL ret fr lo As I (val x) (mem x)) (mv : MSp y bytes maxL ret n) (lnk : Cond.methodLinkNest own idx y host ∈ LT) (hn : As.length = n) (hfr : fr + 1 ≤ FR ∧ 8 + (maxL + 11) + lo ≤ LO)
    {st1 : X → List Value} (hst1 : ∀ x, (val x).toList ++ st = st1 x) (hroom : (st.map fun v => v.category).sum ≤ 8) (hst : st0 = As.reverse ++ st) (hL : L.length = nL) (d : decode cc pc = .ok (.invokestatic idx, 3)) (hq : pc + 3 = q) (kk : ∀ x, WF Z K (rest x) (mem x) q L (st1 x)) : WF Z K (Option.bind f rest) I pc L st0 := by
  intro r hr hkr H locs ls hRp hS hLs
  obtain ⟨x, h1, h2⟩ := Option.bind_eq_some_iff.mp hr
  subst hst
  obtain ⟨mi, mini, mcode, md⟩ := mv
  have hts := C.ts
  refine wm_run hS hLs (va_runSN (As := As) (rest := st) (host := host) ⟨C.x, C.b, C.ml, C.ow, hts⟩ (hc x h1)
    ⟨va_cnB n hts (GoodIn.one mcode rfl) rfl rfl rfl (va_Nw.of rfl (hts _ lnk)) (hts _ mini) md (by rw [hR.1, hR.2]; exact hfr), hts _ mi, trivial⟩
    ⟨St.blind, fun U hU hW => ⟨rfl, by rw [hU]; exact hRp, C.kk.go hW hS hU⟩⟩ rfl hn (by rw [hLs.1]; exact hL) rfl (lv_room hroom) d ⟨by have := C.hc; exact this, by have := C.hs; exact this⟩) ?_
  rw [hst1]
  exact hq ▸ kk x r h2 hkr
end CR
def iO (k ci : Nat) : Bool := decide (isO k ci)
theorem iO_of {k ci : Nat} (h : iO k ci = true) : isO k ci := of_decide_eq_true h
def sm {γ δ X : Type} (f : γ → X) (g : δ → X) (b : γ ⊕ δ) : X := match b with
  | .inl y => f y
  | .inr c => g c
def smP {γ δ : Type} (f : γ → Prop) (g : δ → Prop) (b : γ ⊕ δ) : Prop := match b with
  | .inl y => f y
  | .inr c => g c
theorem w_sm {γ δ R : Type} {K : R → Prop} {f : γ → Option R} {g : δ → Option R} {E1 : γ → Prop} {E2 : δ → Prop} (h1 : ∀ y x, f y = some x → K x → E1 y) (h2 : ∀ c x, g c = some x → K x → E2 c) : ∀ b x, sm f g b = some x → K x → smP E1 E2 b := by
  intro b x hx hk
  cases b with
  | inl y => exact h1 y x hx hk
  | inr c => exact h2 c x hx hk
theorem w_hx {Z : Zx} {R : Type} {K : R → Prop} {e : Option R} {I : Mem} {pc : Nat} {L : List (Option Value)} {st : List Value} (h : WF Z K e I pc L st) : ∀ x, e = some x → K x → WM Z I pc L st := h
theorem w_hr {R : Type} {K : R → Prop} {x : R} {P : Prop} (h : K x → P) : ∀ y, some x = some y → K y → P := fun y hy hk => h (by cases hy; exact hk)
theorem ret_i {x : Int32} {rt : Option FieldType} : ∀ ty v, rt = some ty → (some (.int x) : Option Value) = some v → (∃ x, v = .int x) ∨ ((∃ n, ty = .object n) ∨ ∃ t, ty = .array t) := fun _ _ _ h => Or.inl ⟨x, by cases h; rfl⟩
theorem ret_a {v : Value} {n : String} : ∀ ty w, (some (.object n) : Option FieldType) = some ty → some v = some w → (∃ x, w = .int x) ∨ ((∃ n, ty = .object n) ∨ ∃ t, ty = .array t) := fun _ _ h _ => Or.inr (Or.inl ⟨n, by cases h; rfl⟩)
theorem ret_v : ∀ (ty : FieldType) (v : Value), (none : Option FieldType) = some ty → (none : Option Value) = some v → (∃ x, v = .int x) ∨ ((∃ n, ty = .object n) ∨ ∃ t, ty = .array t) := fun _ _ h _ => by cases h
