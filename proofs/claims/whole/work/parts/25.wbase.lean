/-! the law's own methods: each calls one of the class and catches what it throws -/
def NCs (U : State) : Prop := ∀ i j : Nat, i < 4 → j < 4 → i ≠ j → va_Nc (exN i) (exN j) U
theorem NCs.moved {u U : State} (hvm : u.vm.Alike U.vm) (h : NCs u) : NCs U := fun i j hi hj hij => va_Nc.moved hvm (h i j hi hj hij)
def StN (G : Gx) (I : Mem) (U : State) : Prop := St G I U ∧ NCs U
theorem StN.blind {G : Gx} {I : Mem} {av : List Value} : FrameBlind (va_Pc av (StN G I)) := by
  intro a U g mk h
  obtain ⟨h1, ⟨h2, h3⟩, h4⟩ := h
  exact ⟨h1, ⟨h2, h3.go (s := U) (locs := []) (State.WarmedH.refl U) va_S.rf rfl⟩, NCs.moved (u := U) (U := U.calling g mk a) (Vm.Alike.refl U.vm) h4⟩
def CtL (l : Launch) (G : Gx) (y : MethodName) (cc : ByteArray) (maxL : Nat) (hh : List (Nat × Nat × Nat × Nat)) (fr lo mc ms : Nat) (av : List Value) (I : Mem) (r : Int32) (I' : Mem) : Prop :=
  Met l y [.codeWith y cc maxL (some .int) hh] (rmx fr lo mc ms) (va_Pc av (StN G I)) (Qct G (some (.int r)) I') mc ms (Ab G)
theorem CtL.of {l : Launch} {G : Gx} {y : MethodName} {cc : ByteArray} {maxL : Nat} {hh : List (Nat × Nat × Nat × Nat)} {fr lo mc ms : Nat} {av : List Value} {I : Mem} {r : Int32} {I' : Mem} (hy : plainName y.cls = true) (hcat : (av.all fun v => v.category == 1) = true) (hlen : av.length ≤ maxL)
    (body : ∀ Z : Zx, zG Z = G → zl Z = l → Cx Z cc maxL y.cls → RM Z fr lo → NCs (zs Z) → (zc Z).exceptionTable.toList = tableOf hh → Z.2.2.1 + mc ≤ (zR Z).cells → Z.2.2.2.1 + ms ≤ (zR Z).slots → RetI Z cc .int r I' → WM Z I 0 (av.map some ++ List.replicate (maxL - av.length) none) []) : CtL l G y cc maxL hh fr lo mc ms av I r I' := by
  have hcat : ∀ v ∈ av, v.category = 1 := fun v hv => by simpa using List.all_eq_true.mp hcat v hv
  refine va_MetW (cc := cc) (maxL := maxL) (ret := some .int) (hh := hh) hy rfl ?_
  intro p e s m args below meth c s₁ B hml hv
  obtain ⟨rfl, ⟨hR, hKK⟩, hNC⟩ := hv
  have hown : s.vm.findClass y.cls = some m.cls := findClass_of_methodNamed B.named
  have htab : c.exceptionTable.toList = tableOf hh := vx_table (p := p) (x := y) B (atoms_spec (ws := [Cond.codeWith y cc maxL (some .int) hh]) B.pre _ List.mem_cons_self)
  rw [lg_entry_eq]
  refine body ((p, l, e, _, s, m, av.toArray, below, meth, c), G, 0, 0, MQ below (Qct G (some (.int r)) I') av.toArray s mc ms (Ab G)) rfl rfl ⟨B.exec, B.bytes, hml, hown, B.notSynchronized, hKK, Nat.zero_le _, Nat.zero_le _⟩ ⟨rfl, rfl⟩ hNC htab (by show 0 + mc ≤ mc; omega) (by show 0 + ms ≤ ms; omega) ?_ s.heap [] _ hR va_S.rf (hasL.entry av maxL hcat hlen)
  intro c9 n9 pc L l1 l2 d hn H locs ls hR hS hL
  have hb : c.code = cc := B.bytes
  have hr := B.returns
  have hx := B.exec
  have hlocks := B.notSynchronized
  refine W.widen (k := mc) (n := ms) l1 l2 ?_
  exact W.zret hx hb hr hn (fun t ht hW => ⟨⟨rfl, by rw [ht]; exact hR⟩, hS.F ht⟩) hS.2.2 d
section WR
variable {Z : Zx} {cc : ByteArray} {nL : Nat} {own : String} {R : Type} {K : R → Prop} {e : Option R} {I : Mem} {pc q : Nat} {L : List (Option Value)} {st : List Value}
/-- what the caught exception's way gives -/
def HOK (Z : Zx) (pc : Nat) (L : List (Option Value)) (st : List Value) (mc ms k : Nat) (I' : Mem) : Prop := ∀ (H1 : Heap) (locs1 : List Loc) (ls : Array Slot) (ce : Cell) (q : Addr), Rep (zG Z) I' H1 → va_S (Ab (zG Z)) (zs Z).heap H1 locs1 → hasL ls L → H1[q]? = some ce → ce.vm = .none → (zs Z).vm.findClass (exN k) = some ce.cls →
  vx_W (zp Z) (zl Z) (ze Z) (zR Z) (zs Z) (zm Z) (za Z) (zb Z) (zh Z) (zc Z) H1 locs1 (Z.2.2.1 + mc) (Z.2.2.2.1 + ms) Z.2.2.2.2 (F0 (zm Z) pc ls st) q
theorem x_caught (C : Cx Z cc nL own) {mc ms k i : Nat} {c : Int32} {n : Int} {h2 h3 : Nat} (hcc : Z.2.2.1 + mc ≤ (zR Z).cells) (hss : Z.2.2.2.1 + ms ≤ (zR Z).slots) (pre : List ExceptionTableEntry) (x : ExceptionTableEntry) (suf : List ExceptionTableEntry) (tab : (zc Z).exceptionTable.toList = pre ++ x :: suf) (hcov : covers x pc = true) (h0 : x.catchType ≠ 0)
    (lnk : Cond.classLink own x.catchType (exN k) ∈ LT) (cst : Cond.castable (exN k) (exN k) ∈ LT) (hpass : ∀ z ∈ pre, covers z pc = false ∨ (z.catchType ≠ 0 ∧ ∃ nm : String, (Cond.classLink own z.catchType nm).before (za Z) (zs Z) = true ∧ va_Nc (exN k) nm (zs Z)))
    (hi : i < L.length) (da : (decode cc x.handlerPc = .ok (.astore i, 2) ∧ h2 = x.handlerPc + 2) ∨ ∃ j : Fin 4, (j : Nat) = i ∧ decode cc x.handlerPc = .ok (.astore_n j, 1) ∧ h2 = x.handlerPc + 1) (dc : decode cc h2 = .ok (.iconst n, 1)) (hc : Int32.ofInt n = c) (h3e : h3 = h2 + 1) (dr : decode cc h3 = .ok (.ireturn, 1))
    {I' : Mem} (hret : RetI Z cc .int c I') : HOK Z pc L st mc ms k I' := by
  intro H1 locs1 ls ce q hRp hS hLs hce hcv hcl
  refine vx_catch C.ow pre x suf tab hpass hcov h0 (C.ts _ lnk) (C.ts _ cst) hce hcv hcl ?_
  have tail : ∀ ls' : Array Slot, hasL ls' (L.set i (some (.ref q))) → W (zp Z) (zl Z) (ze Z) (zR Z) (zs Z) (zm Z) (za Z) (zb Z) (zh Z) (zc Z) H1 locs1 (Z.2.2.1 + mc) (Z.2.2.2.1 + ms) Z.2.2.2.2 (F0 (zm Z) h2 ls' []) := by
    intro ls' h'
    refine lv_iconst C.x C.b dc hc ?_
    rw [← h3e]
    exact hret (Z.2.2.1 + mc) (Z.2.2.2.1 + ms) h3 _ hcc hss dr rfl H1 locs1 ls' hRp hS h'
  rcases da with ⟨da, rfl⟩ | ⟨j, hj, da, rfl⟩
  · exact lv_astore C.x C.b da hLs.has hi rfl (fun ls' h' => tail ls' (hasL.of (v := .ref q) hi rfl hLs.cat h'))
  · exact lv_astore_n C.x C.b da hj hLs.has hi rfl (fun ls' h' => tail ls' (hasL.of (v := .ref q) hi rfl hLs.cat h'))
theorem w_callVC (C : Cx Z cc nL own) {FR LO : Nat} (hR : RM Z FR LO) {ci idx maxL fr lo mc ms n k : Nat} {y : MethodName} {bytes : ByteArray} {ret : Option FieldType} {As st0 : List Value} {V : Type} {f : Option ((V ⊕ Nat) × Mem)} {val : V → Option Value} {rest : V → Mem → Option R} {hv : Nat → Option Int32} {ex : Int32 → Mem → R}
    (hcc : Z.2.2.1 + mc ≤ (zR Z).cells) (hss : Z.2.2.2.1 + ms ≤ (zR Z).slots)
    (hc : ∀ x, f = some x → CtX (zl Z) (zG Z) y bytes maxL ret fr lo mc ms (rf (zG Z) k :: As) I (rsX val x.1) x.2) (hk : isO k ci) (mv : MVp ci y bytes maxL ret n) (lnk : Cond.methodLink own idx y ∈ LT) (hn : As.length = n) (hfr : fr + 1 ≤ FR ∧ 8 + (maxL + 11) + lo ≤ LO)
    {st1 : V → List Value} (hst1 : ∀ x, (val x).toList ++ st = st1 x) (hroom : (st.map fun v => v.category).sum ≤ 8) (hst : st0 = As.reverse ++ rf (zG Z) k :: st) (hL : L.length = nL) (d : decode cc pc = .ok (.invokevirtual idx, 3)) (hq : pc + 3 = q)
    (hX : ∀ k c I', hv k = some c → K (ex c I') → HOK Z pc L st mc ms k I')
    (kk : ∀ x I', WF (Zb Z (Z.2.2.1 + mc) (Z.2.2.2.1 + ms)) K (rest x I') I' q L (st1 x)) : WF Z K (obx f (fun k I' => (hv k).map (fun c => ex c I')) rest) I pc L st0 := by
  intro r hr hkr H locs ls hRp hS hLs
  subst hst
  obtain ⟨⟨T, N, hcl⟩, mi, msel, mini, mcode, md⟩ := mv
  have hts := C.ts
  cases hf : f with
  | none => rw [hf] at hr; cases hr
  | some x =>
    obtain ⟨x, I'⟩ := x
    refine wm_runX (res := rsX val x) (I' := I') hS hLs (vx_runV (As := As) (rest := st) (C := y.cls) ⟨C.x, C.b, C.ml, C.ow, hts⟩ (hc _ hf)
      ⟨callB_of n hts (GoodIn.one mcode rfl) rfl rfl rfl (hts _ mini) (hts _ lnk) md (by rw [hR.1, hR.2]; exact hfr), hts _ mi, hts _ msel⟩
      ⟨St.blind, va_recv C.K hRp hcl (by rw [wd_get hk.1, cell_O hk]), fun U hU hW => ⟨rfl, by rw [hU]; exact hRp, C.kk.go hW hS hU⟩⟩ rfl hn (by rw [hLs.1]; exact hL) rfl (lv_room hroom) d ⟨hcc, hss⟩) ?_ ?_
    · intro rv hrv
      cases x with
      | inl v =>
        have e1 : val v = rv := by simpa [rsX] using hrv
        rw [← e1, hst1]
        rw [hf] at hr
        exact hq ▸ kk v I' r hr hkr
      | inr k9 => cases hrv
    · intro k9 hk9 H1 locs1 ce q0 h1 h2 h3 h4 h5
      cases x with
      | inl v => cases hk9
      | inr k8 =>
        have e1 : k8 = k9 := by simpa [rsX] using hk9
        subst e1
        rw [hf] at hr
        have e2 : (hv k8).map (fun c => ex c I') = some r := by simpa [obx] using hr
        obtain ⟨c, h6, h7⟩ := Option.map_eq_some_iff.mp e2
        exact hX k8 c I' h6 (by rw [h7]; exact hkr) H1 locs1 ls ce q0 h1 h2 hLs h3 h4 h5
end WR
