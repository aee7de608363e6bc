/-! methods that throw: contract, ends, calls -/
def exN : Nat → String
  | 0 => "java/lang/IllegalArgumentException"
  | 1 => "java/lang/IllegalStateException"
  | 2 => "java/lang/IndexOutOfBoundsException"
  | _ => "java/util/NoSuchElementException"
def rmx (fr lo mc ms : Nat) : Room := { frames := fr, cells := mc, slots := ms, locals := lo }
def QcX (G : Gx) (res : Option Value ⊕ Nat) (I' : Mem) : Array Value → State → Outcome → State → Prop := fun _ st o t => (∃ rv, res = .inl rv ∧ o = .returned rv) ∧ Rep G I' t.heap ∧ va_F (Ab G) st t
def XCX (G : Gx) (res : Option Value ⊕ Nat) (I' : Mem) : String → State → State → Prop := fun E st t => (∃ k, res = .inr k ∧ E = exN k) ∧ Rep G I' t.heap ∧ va_F (Ab G) st t
def CtX (l : Launch) (G : Gx) (y : MethodName) (cc : ByteArray) (maxL : Nat) (ret : Option FieldType) (fr lo mc ms : Nat) (av : List Value) (I : Mem) (res : Option Value ⊕ Nat) (I' : Mem) : Prop :=
  vx_Met l y [.code y cc maxL ret] (rmx fr lo mc ms) (va_Pc av (St G I)) (QcX G res I') (XCX G res I') mc ms (Ab G)
def NX (Z : Zx) : Prop := ∀ x ∈ (zc Z).exceptionTable.toList, False
def RetX (Z : Zx) (k : Nat) (I' : Mem) : Prop := NX Z ∧ (zl Z).stackTraces = false ∧ ∃ Qc XC, Z.2.2.2.2 = vx_MQ (zb Z) Qc XC (za Z) (zs Z) (zR Z).cells (zR Z).slots (Ab (zG Z)) ∧ ∀ t : State, Rep (zG Z) I' t.heap → va_F (Ab (zG Z)) (zs Z) t → XC (exN k) (zs Z) t
theorem CtX.of {l : Launch} {G : Gx} {y : MethodName} {cc : ByteArray} {maxL : Nat} {ret : Option FieldType} {fr lo mc ms : Nat} {av : List Value} {I : Mem} {res : Option Value ⊕ Nat} {I' : Mem} (hst : l.stackTraces = false) (hy : plainName y.cls = true) (hcat : (av.all fun v => v.category == 1) = true) (hlen : av.length ≤ maxL)
    (hret : ∀ rv, res = .inl rv → ∀ ty v, ret = some ty → rv = some v → (∃ x, v = .int x) ∨ ((∃ n, ty = .object n) ∨ ∃ t, ty = .array t))
    (body : ∀ Z : Zx, zG Z = G → zl Z = l → Cx Z cc maxL y.cls → RM Z fr lo → Z.2.2.1 + mc ≤ (zR Z).cells → Z.2.2.2.1 + ms ≤ (zR Z).slots → (∀ rv, res = .inl rv → RetOf Z cc ret rv I') → (∀ k, res = .inr k → RetX Z k I') → WM Z I 0 (av.map some ++ List.replicate (maxL - av.length) none) []) : CtX l G y cc maxL ret fr lo mc ms av I res I' := by
  have hcat : ∀ v ∈ av, v.category = 1 := fun v hv => by simpa using List.all_eq_true.mp hcat v hv
  refine vx_ofW (cc := cc) (maxL := maxL) (ret := ret) hy rfl ?_
  intro p e s m args below meth c s₁ B hml hnx hv
  obtain ⟨rfl, hR, hKK⟩ := hv
  have hown : s.vm.findClass y.cls = some m.cls := findClass_of_methodNamed B.named
  rw [lg_entry_eq]
  refine body ((p, l, e, _, s, m, av.toArray, below, meth, c), G, 0, 0, vx_MQ below (QcX G res I') (XCX G res I') av.toArray s mc ms (Ab G)) rfl rfl ⟨B.exec, B.bytes, hml, hown, B.notSynchronized, hKK, Nat.zero_le _, Nat.zero_le _⟩ ⟨rfl, rfl⟩ (by show 0 + mc ≤ mc; omega) (by show 0 + ms ≤ ms; omega) ?_ ?_ s.heap [] _ hR va_S.rf (hasL.entry av maxL hcat hlen)
  · intro rv hrv
    have hb : c.code = cc := B.bytes
    have hr := B.returns
    have hx := B.exec
    have hlocks := B.notSynchronized
    have hret2 := hret rv hrv
    clear hret
    unfold RetOf
    split
    · next =>
      intro c9 n9 pc L l1 l2 d H locs ls hR hS hL
      refine W.widen (k := mc) (n := ms) l1 l2 (vx_ret ?_)
      exact W.vret hx hb hr (fun t ht hW => ⟨⟨_, hrv, rfl⟩, by rw [ht]; exact hR, hS.F ht⟩) hS.2.2 d
    · next ty v =>
      intro c9 n9 pc L l1 l2 d hn H locs ls hR hS hL
      refine W.widen (k := mc) (n := ms) l1 l2 (vx_ret ?_)
      exact W.zret hx hb hr hn (fun t ht hW => ⟨⟨_, hrv, rfl⟩, by rw [ht]; exact hR, hS.F ht⟩) hS.2.2 d
    · next ty a =>
      intro k hk c9 n9 pc L l1 l2 d H locs ls hR hS hL
      have hk' : a = G.1 + k := hk
      subst hk'
      refine W.widen (k := mc) (n := ms) l1 l2 (vx_ret ?_)
      refine W.aret (rt := ty) hx hb hr ?_ (Or.inr ⟨_, rfl⟩) (fun t ht hW => ⟨⟨_, hrv, rfl⟩, by rw [ht]; exact hR, hS.F ht⟩) hS.2.2 d
      rcases hret2 ty _ rfl rfl with ⟨x, h⟩ | h
      · cases h
      · exact h
    · trivial
  · intro k hk
    exact ⟨hnx, hst, _, _, rfl, fun t h1 h2 => ⟨⟨k, hk, rfl⟩, h1, h2⟩⟩
theorem Cx.bump {Z : Zx} {cc : ByteArray} {nL : Nat} {own : String} (C : Cx Z cc nL own) {c n : Nat} (hc : c ≤ (zR Z).cells) (hs : n ≤ (zR Z).slots) : Cx (Zb Z c n) cc nL own :=
  ⟨C.x, C.b, C.ml, C.ow, C.lk, C.kk, hc, hs⟩
theorem Rep.kept {G : Gx} {I : Mem} {H H1 : Heap} (h : Rep G I H) (hq : ∀ q : Nat, q < H.size → H1[q]? = H[q]?) : Rep G I H1 := va_P.kept h (fun k q hk => hq q.1 (h k q hk).lt)
section TR
variable {Z : Zx} {cc : ByteArray} {nL : Nat} {own : String} {R : Type} {K : R → Prop} {e : Option R} {I : Mem} {pc q : Nat} {L : List (Option Value)} {st : List Value}
/-- the words of 'new E(text)' for the class own -/
abbrev TWp (own : String) (ik ic k : Nat) : Prop := Cond.classLink own ik (exN k) ∈ LT ∧ Cond.initialized (exN k) ∈ LT ∧ (∀ w ∈ vx_atS own ic (exN k) ["java/lang/RuntimeException", "java/lang/Exception"], w ∈ LT) ∧
  ((Cond.classLink own ik (exN k) :: Cond.initialized (exN k) :: vx_atS own ic (exN k) ["java/lang/RuntimeException", "java/lang/Exception"]).all vx_ot = true) ∧ Bundle.fit (exN k) = true
theorem w_throw (C : Cx Z cc nL own) {FR LO : Nat} (hR : RM Z FR LO) (hc : Z.2.2.1 + 1 ≤ (zR Z).cells) (hs : Z.2.2.2.1 + 6 ≤ (zR Z).slots) {x : R} {k ik is ic : Nat} {text : String} (hK : K x → RetX Z k I) (tw : TWp own ik ic k) (hstr : (own, is, text) ∈ strs)
    (hFR : 6 ≤ FR) (hLO : (st.map fun v => v.category).sum + 82 ≤ LO) (hL : L.length = nL)
    (d0 : decode cc pc = .ok (.new ik, 3)) (d3 : decode cc (pc + 3) = .ok (.dup, 1)) (d4 : decode cc (pc + 4) = .ok (.ldc is, 2)) (d6 : decode cc (pc + 6) = .ok (.invokespecial ic, 3)) (d9 : decode cc (pc + 9) = .ok (.athrow, 1)) : WF Z K (some x) I pc L st := by
  intro y hy hk H locs ls hRp hS hLs
  cases hy
  obtain ⟨hnx, hl, Qc, XC, hQ, hXC⟩ := hK hk
  obtain ⟨sa, hsa⟩ := C.kk.2.2.2.2 _ hstr
  obtain ⟨t1, t2, t3, t4, t5⟩ := tw
  show W _ _ _ _ _ _ _ _ _ _ H locs _ _ Z.2.2.2.2 _
  rw [hQ]
  exact vx_throwS (A := Ab (zG Z)) C.x C.b hl C.ow t5 (by decide +kernel) (C.ts _ t1) (C.ts _ t2) hsa (fun w hw => C.ts _ (t3 w hw)) (fun w hw => List.all_eq_true.mp t4 w hw) C.kk.2.2.1 C.kk.2.2.2.1 hS (by rw [C.ml, hLs.1, hL]) d0 d3 d4 d6 d9
    (fun z hz => (hnx z hz).elim) (by rw [hR.1]; exact hFR) (by rw [hR.2]; exact hLO) hc hs C.lk
    (fun t ha hz hq => hXC t (hRp.kept hq) ⟨Nat.le_trans hS.1 hz, fun q0 h1 h2 => by rw [hq q0 (Nat.lt_of_lt_of_le h1 hS.1)]; exact hS.2.1 q0 h1 h2⟩) hS.2.2 hc hs
theorem w_throwW (C : Cx Z cc nL own) {FR LO : Nat} (hR : RM Z FR LO) (hc : Z.2.2.1 + 1 ≤ (zR Z).cells) (hs : Z.2.2.2.1 + 6 ≤ (zR Z).slots) {x : R} {k ik is ic : Nat} {text : String} (hK : K x → RetX Z k I) (tw : TWp own ik ic k) (hstr : (own, is, text) ∈ strs)
    (hFR : 6 ≤ FR) (hLO : (st.map fun v => v.category).sum + 82 ≤ LO) (hL : L.length = nL)
    (d0 : decode cc pc = .ok (.new ik, 3)) (d3 : decode cc (pc + 3) = .ok (.dup, 1)) (d4 : decode cc (pc + 4) = .ok (.ldc_w is, 3)) (d7 : decode cc (pc + 7) = .ok (.invokespecial ic, 3)) (d10 : decode cc (pc + 10) = .ok (.athrow, 1)) : WF Z K (some x) I pc L st := by
  intro y hy hk H locs ls hRp hS hLs
  cases hy
  obtain ⟨hnx, hl, Qc, XC, hQ, hXC⟩ := hK hk
  obtain ⟨sa, hsa⟩ := C.kk.2.2.2.2 _ hstr
  obtain ⟨t1, t2, t3, t4, t5⟩ := tw
  show W _ _ _ _ _ _ _ _ _ _ H locs _ _ Z.2.2.2.2 _
  rw [hQ]
  exact vx_throwSW (A := Ab (zG Z)) C.x C.b hl C.ow t5 (by decide +kernel) (C.ts _ t1) (C.ts _ t2) hsa (fun w hw => C.ts _ (t3 w hw)) (fun w hw => List.all_eq_true.mp t4 w hw) C.kk.2.2.1 C.kk.2.2.2.1 hS (by rw [C.ml, hLs.1, hL]) d0 d3 d4 d7 d10
    (fun z hz => (hnx z hz).elim) (by rw [hR.1]; exact hFR) (by rw [hR.2]; exact hLO) hc hs C.lk
    (fun t ha hz hq => hXC t (hRp.kept hq) ⟨Nat.le_trans hS.1 hz, fun q0 h1 h2 => by rw [hq q0 (Nat.lt_of_lt_of_le h1 hS.1)]; exact hS.2.1 q0 h1 h2⟩) hS.2.2 hc hs
/-- behind a call that may throw: either way -/
theorem wm_runX {res : Option Value ⊕ Nat} {mc ms : Nat} {I' : Mem} {H : Heap} {locs : List Loc} {ls : Array Slot} {st0 : List Value} (hS : va_S (Ab (zG Z)) (zs Z).heap H locs) (hL : hasL ls L)
    (hr : vx_Run (zp Z) (zl Z) (ze Z) (zR Z) (zs Z) (zm Z) (za Z) (zb Z) (zh Z) (zc Z) H locs Z.2.2.1 Z.2.2.2.1 mc ms (F0 (zm Z) pc ls st0) st (fun st o t => (∃ rv, res = .inl rv ∧ o = .returned rv) ∧ Rep (zG Z) I' t.heap ∧ va_F (Ab (zG Z)) st t) (XCX (zG Z) res I') (Ab (zG Z)))
    (k : ∀ rv, res = .inl rv → WM (Zb Z (Z.2.2.1 + mc) (Z.2.2.2.1 + ms)) I' (pc + 3) L (rv.toList ++ st))
    (kx : ∀ kx, res = .inr kx → ∀ (H1 : Heap) (locs1 : List Loc) (ce : Cell) (q : Addr), Rep (zG Z) I' H1 → va_S (Ab (zG Z)) (zs Z).heap H1 locs1 → H1[q]? = some ce → ce.vm = .none → (zs Z).vm.findClass (exN kx) = some ce.cls →
      vx_W (zp Z) (zl Z) (ze Z) (zR Z) (zs Z) (zm Z) (za Z) (zb Z) (zh Z) (zc Z) H1 locs1 (Z.2.2.1 + mc) (Z.2.2.2.1 + ms) Z.2.2.2.2 (F0 (zm Z) pc ls st) q) : WZ Z H locs (F0 (zm Z) pc ls st0) := by
  have keep : ∀ (t st₀ T' : State) (Lx : List Loc), st₀.heap = H → T'.heap = t.heap → (∀ q ∈ Lx, Ab (zG Z) q.base) → va_F (Ab (zG Z)) st₀ t → va_S (Ab (zG Z)) (zs Z).heap T'.heap (locs ++ Lx) := by
    intro t st₀ T' Lx h0 e1 hLx hF
    obtain ⟨hz, hk⟩ := hF
    rw [h0] at hz hk
    exact ⟨Nat.le_trans hS.1 (by rw [e1]; exact hz), fun q h1 h2 => by rw [e1, hk q (Nat.lt_of_lt_of_le h1 hS.1) h2]; exact hS.2.1 q h1 h2, fun q hq => by
      rcases List.mem_append.mp hq with h | h
      · exact hS.2.2 q h
      · exact hLx q h⟩
  intro T hT X
  rcases hr T hT X with ⟨v, st₀, t, T', Lx, h0, X', hLx, e1, e2, ⟨⟨rv, hv, ho⟩, hst, hF⟩, go⟩ | ⟨q, st₀, t, T', Lx, E, ce, h0, X', hLx, e1, e2, ⟨⟨k9, h9, rfl⟩, hst, hF⟩, hce, hcv, hcl, go⟩
  · have hv' : v = rv := by injection ho
    subst hv'
    obtain ⟨t2, a1, b1⟩ := k v hv T'.heap (locs ++ Lx) ls (by rw [e1]; exact hst) (keep t st₀ T' Lx h0 e1 hLx hF) hL T' rfl X'
    exact ⟨t2, go t2 a1, b1⟩
  · obtain ⟨t2, a1, b1⟩ := kx k9 h9 T'.heap (locs ++ Lx) ce q (by rw [e1]; exact hst) (keep t st₀ T' Lx h0 e1 hLx hF) (by rw [e1]; exact hce) hcv hcl T' rfl X'
    exact ⟨t2, go.trans a1, b1⟩
theorem x_out (C : Cx Z cc nL own) {k : Nat} {ls : Array Slot} {mc ms : Nat} (hc : Z.2.2.1 + mc ≤ (zR Z).cells) (hs : Z.2.2.2.1 + ms ≤ (zR Z).slots) (hX : RetX Z k I) {H1 : Heap} {locs1 : List Loc} {ce : Cell} {q0 : Addr} (hRp : Rep (zG Z) I H1) (hS : va_S (Ab (zG Z)) (zs Z).heap H1 locs1) (hce : H1[q0]? = some ce) (hcv : ce.vm = .none) (hcl : (zs Z).vm.findClass (exN k) = some ce.cls) :
    vx_W (zp Z) (zl Z) (ze Z) (zR Z) (zs Z) (zm Z) (za Z) (zb Z) (zh Z) (zc Z) H1 locs1 (Z.2.2.1 + mc) (Z.2.2.2.1 + ms) Z.2.2.2.2 (F0 (zm Z) pc ls st) q0 := by
  obtain ⟨hnx, hl, Qc, XC, hQ, hXC⟩ := hX
  rw [hQ]
  exact vx_out (fun z hz => (hnx z hz).elim) C.lk hce hcv hcl (fun t ht hW => hXC t (by rw [ht]; exact hRp) (hS.F ht)) hS.2.2 hc hs
/-- the answer of a callee that may throw -/
def rsX {V : Type} (val : V → Option Value) (x : V ⊕ Nat) : Option Value ⊕ Nat := match x with
  | .inl v => .inl (val v)
  | .inr k => .inr k
def obx {V R : Type} (f : Option ((V ⊕ Nat) × Mem)) (ex : Nat → Mem → Option R) (rest : V → Mem → Option R) : Option R := match f with
  | none => none
  | some (.inl v, I) => rest v I
  | some (.inr k, I) => ex k I
theorem w_callVX (C : Cx Z cc nL own) {FR LO : Nat} (hR : RM Z FR LO) {ci idx maxL fr lo mc ms n k : Nat} {y : MethodName} {bytes : ByteArray} {ret : Option FieldType} {As st0 : List Value} {V : Type} {f : Option ((V ⊕ Nat) × Mem)} {val : V → Option Value} {rest : V → Mem → Option R} {ex : Nat → Mem → R}
    (hcc : Z.2.2.1 + mc ≤ (zR Z).cells) (hss : Z.2.2.2.1 + ms ≤ (zR Z).slots)
    (hc : ∀ x, f = some x → CtX (zl Z) (zG Z) y bytes maxL ret fr lo mc ms (rf (zG Z) k :: As) I (rsX val x.1) x.2) (hk : isO k ci) (mv : MVp ci y bytes maxL ret n) (lnk : Cond.methodLink own idx y ∈ LT) (hn : As.length = n) (hfr : fr + 1 ≤ FR ∧ 8 + (maxL + 11) + lo ≤ LO)
    {st1 : V → List Value} (hst1 : ∀ x, (val x).toList ++ st = st1 x) (hroom : (st.map fun v => v.category).sum ≤ 8) (hst : st0 = As.reverse ++ rf (zG Z) k :: st) (hL : L.length = nL) (d : decode cc pc = .ok (.invokevirtual idx, 3)) (hq : pc + 3 = q)
    (hX : ∀ k I', K (ex k I') → RetX Z k I')
    (kk : ∀ x I', WF (Zb Z (Z.2.2.1 + mc) (Z.2.2.2.1 + ms)) K (rest x I') I' q L (st1 x)) : WF Z K (obx f (fun k I' => some (ex k I')) rest) I pc L st0 := by
  intro r hr hkr H locs ls hRp hS hLs
  subst hst
  obtain ⟨⟨T, N, hcl⟩, mi, msel, mini, mcode, md⟩ := mv
  have hts := C.ts
  cases hf : f with
  | none => rw [hf] at hr; cases hr
  | some x =>
    obtain ⟨x, I'⟩ := x
    refine wm_runX (res := rsX val x) (I' := I') hS hLs (vx_runV (As := As) (rest := st) (C := y.cls) ⟨C.x, C.b, C.ml, C.ow, hts⟩ (hc _ hf)
      ⟨callB_of n hts (GoodIn.one mcode rfl) rfl rfl rfl (hts _ mini) (hts _ lnk) md (by rw [hR.1, hR.2]; exact hfr), hts _ mi, hts _ msel⟩
      ⟨St.blind, va_recv C.K hRp hcl (by rw [wd_get hk.1, cell_O hk]), fun U hU hW => ⟨rfl, by rw [hU]; exact hRp, C.kk.go hW hS hU⟩⟩ rfl hn (by rw [hLs.1]; exact hL) rfl (lv_room hroom) d ⟨hcc, hss⟩) ?_ ?_
    · intro rv hrv
      cases x with
      | inl v =>
        have e1 : val v = rv := by simpa [rsX] using hrv
        rw [← e1, hst1]
        rw [hf] at hr
        exact hq ▸ kk v I' r hr hkr
      | inr k9 => cases hrv
    · intro k9 hk9 H1 locs1 ce q0 h1 h2 h3 h4 h5
      cases x with
      | inl v => cases hk9
      | inr k8 =>
        have e1 : k8 = k9 := by simpa [rsX] using hk9
        subst e1
        rw [hf] at hr
        have e2 : ex k8 I' = r := by simpa [obx] using hr
        exact x_out C hcc hss (hX k8 I' (by rw [e2]; exact hkr)) h1 h2 h3 h4 h5
end TR
theorem retx_i {x : Int32 ⊕ Nat} {rt : Option FieldType} : ∀ rv, rsX (fun v => some (.int v)) x = .inl rv → ∀ ty v, rt = some ty → rv = some v → (∃ x, v = .int x) ∨ ((∃ n, ty = .object n) ∨ ∃ t, ty = .array t) := by
  intro rv h ty v _ hv
  cases x with
  | inl y =>
    have e1 : some (Value.int y) = rv := by simpa [rsX] using h
    subst hv
    exact Or.inl ⟨y, by cases e1; rfl⟩
  | inr k => cases h
theorem retx_v {x : Unit ⊕ Nat} : ∀ rv, rsX (fun _ => none) x = .inl rv → ∀ (ty : FieldType) (v : Value), (none : Option FieldType) = some ty → rv = some v → (∃ x, v = .int x) ∨ ((∃ n, ty = .object n) ∨ ∃ t, ty = .array t) := fun _ _ _ _ h _ => by cases h
theorem okA {a b c : Nat} {k : Nat} (h : a + c ≤ b) (hk : k ≤ c) : a + k ≤ b := Nat.le_trans (Nat.add_le_add_left hk a) h
