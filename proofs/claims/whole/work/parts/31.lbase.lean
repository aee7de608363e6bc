/-! the law's loop: the script, the calls, the switch -/
def LX (Z : Zx) (b n : Nat) (xs : Nat → Int32) : Prop := va_X b n xs (zs Z) (zs Z).heap ∧ b < (zs Z).heap.size ∧ ¬ Ab (zG Z) b
abbrev MWp (y : MethodName) (bytes : ByteArray) (maxL : Nat) (hh : List (Nat × Nat × Nat × Nat)) (n : Nat) : Prop :=
  Cond.static y ∈ LT ∧ Cond.initialized y.cls ∈ LT ∧ Cond.codeWith y bytes maxL (some .int) hh ∈ LT ∧
  (y.cls ≠ "java/lang/invoke/MethodHandle" ∧ y.cls ≠ "java/lang/invoke/VarHandle" ∧ (parseMethodDescriptor y.desc).map (fun d => d.parameters.length) = some n)
section LW
variable {Z : Zx} {cc : ByteArray} {nL : Nat} {own : String} {R : Type} {K : R → Prop} {e : Option R} {I : Mem} {pc q : Nat} {L : List (Option Value)} {st : List Value}
theorem WM.widen {c n : Nat} (h1 : Z.2.2.1 ≤ c) (h2 : Z.2.2.2.1 ≤ n) (h : WM (Zb Z c n) I pc L st) : WM Z I pc L st :=
  fun H locs ls hR hS hL => W.widen (k := c) (n := n) h1 h2 (h H locs ls hR hS hL)
theorem w_aloadB (C : Cx Z cc nL own) {n : Fin 4} {b : Nat} (d : decode cc pc = .ok (.aload_n n, 1)) (hl : L[(n : Nat)]? = some (some (.ref b))) (hq : pc + 1 = q) (k : WF Z K e I q L (.ref b :: st)) : WF Z K e I pc L st :=
  fun x hx hk H locs ls hR hS hL => lv_aload_n C.x C.b d rfl (hL.get hl) (hq ▸ k x hx hk H locs ls hR hS hL)
theorem w_sld (C : Cx Z cc nL own) {b n : Nat} {xs : Nat → Int32} (X : LX Z b n xs) {i : Int32} (d : decode cc pc = .ok (.iaload, 1)) (hq : pc + 1 = q) (kk : inb i n = true → WF Z K e I q L (.int (xs i.toNatClampNeg) :: st)) : WF Z K (gd (inb i n) e) I pc L (.int i :: .ref b :: st) :=
  fun x hx hx2 H locs ls hR hS hL => va_sld C.x C.b X.1 X.2.1 X.2.2 hS (inb_in (gd_some hx).1) d (hq ▸ kk (gd_some hx).1 x (gd_some hx).2 hx2 H locs ls hR hS hL)
theorem w_slen (C : Cx Z cc nL own) {b n : Nat} {xs : Nat → Int32} (X : LX Z b n xs) (d : decode cc pc = .ok (.arraylength, 1)) (hq : pc + 1 = q) (kk : WF Z K e I q L (.int (Int32.ofNat n) :: st)) : WF Z K e I pc L (.ref b :: st) :=
  fun x hx hx2 H locs ls hR hS hL => va_slen C.x C.b X.1 X.2.1 X.2.2 hS d (hq ▸ kk x hx hx2 H locs ls hR hS hL)
theorem w_tabIn (C : Cx Z cc nL own) {dflt lo hi : Int} {offs : Array Int} {len : Nat} {x : Int32} {off : Int} {tgt : Nat} (d : decode cc pc = .ok (.tableswitch dflt lo hi offs, len)) (h1 : ¬ x.toInt < lo) (h2 : ¬ hi < x.toInt) (h3 : offs[(x.toInt - lo).toNat]? = some off) (ht : (pc : Int) + off = (tgt : Int)) (k : WF Z K e I tgt L st) : WF Z K e I pc L (.int x :: st) :=
  fun r hr hk H locs ls hR hS hL => lv_tableIn C.x C.b d h1 h2 h3 ht (k r hr hk H locs ls hR hS hL)
theorem w_tabOut (C : Cx Z cc nL own) {dflt lo hi : Int} {offs : Array Int} {len : Nat} {x : Int32} {tgt : Nat} (d : decode cc pc = .ok (.tableswitch dflt lo hi offs, len)) (h : x.toInt < lo ∨ hi < x.toInt) (ht : (pc : Int) + dflt = (tgt : Int)) (k : WF Z K e I tgt L st) : WF Z K e I pc L (.int x :: st) :=
  fun r hr hk H locs ls hR hS hL => lv_tableOut C.x C.b d h ht (k r hr hk H locs ls hR hS hL)
theorem w_bad {x : R} (h : ¬ K x) : WF Z K (some x) I pc L st := fun y hy hk => by cases hy; exact absurd hk h
theorem w_callSW (C : Cx Z cc nL own) {FR LO : Nat} (hR : RM Z FR LO) (hNC : NCs (zs Z)) {idx maxL fr lo mc ms n : Nat} {y : MethodName} {bytes : ByteArray} {hh : List (Nat × Nat × Nat × Nat)} {As st0 : List Value} {f : Option (Int32 × Mem)} {rest : Int32 × Mem → Option R}
    (hcc : Z.2.2.1 + mc ≤ (zR Z).cells) (hss : Z.2.2.2.1 + ms ≤ (zR Z).slots)
    (hc : ∀ x, f = some x → CtL (zl Z) (zG Z) y bytes maxL hh fr lo mc ms As I x.1 x.2) (mv : MWp y bytes maxL hh n) (lnk : Cond.methodLink own idx y ∈ LT) (hn : As.length = n) (hfr : fr + 1 ≤ FR ∧ 8 + (maxL + 11) + lo ≤ LO)
    (hroom : (st.map fun v => v.category).sum ≤ 8) (hst : st0 = As.reverse ++ st) (hL : L.length = nL) (d : decode cc pc = .ok (.invokestatic idx, 3)) (hq : pc + 3 = q) (kk : ∀ x, WF (Zb Z (Z.2.2.1 + mc) (Z.2.2.2.1 + ms)) K (rest x) x.2 q L (.int x.1 :: st)) : WF Z K (Option.bind f rest) I pc L st0 := by
  intro r hr hkr H locs ls hRp hS hLs
  obtain ⟨x, h1, h2⟩ := Option.bind_eq_some_iff.mp hr
  subst hst
  obtain ⟨mi, mini, mcode, md⟩ := mv
  have hts := C.ts
  have hkk := kk x r h2 hkr
  have hrun := vx_runSW (e := ze Z) (meth := zh Z) (g := F0 (zm Z) pc ls (As.reverse ++ st)) (cells := Z.2.2.1) (slots := Z.2.2.2.1) (below := zb Z) (locs := locs) (H := H) (As := As) (rest := st) ⟨C.x, C.b, C.ml, C.ow, hts⟩ (hc x h1)
    ⟨⟨rfl, rfl, by rw [hR.1]; exact hfr.1, by rw [hR.2]; exact hfr.2, fun w hw a' U hW => TB.use (TB.warm hW C.kk.2.1) a' w (by rw [List.mem_singleton.mp hw]; exact mcode), List.mem_singleton.mpr rfl⟩, hts _ mcode, hts _ mini, ⟨md.1, md.2.1⟩, fun sig h => by have h2 := md.2.2; rw [h] at h2; exact (Option.some.inj h2).symm, hts _ lnk, hts _ mi⟩
    ⟨StN.blind, fun U hU hW => ⟨rfl, ⟨by rw [hU]; exact hRp, C.kk.go hW hS hU⟩, hNC.moved hW.alike⟩⟩ rfl hn (by rw [hLs.1]; exact hL) rfl (lv_room hroom) d ⟨hcc, hss⟩
  intro T hT X
  obtain ⟨v, st₀, t, T', Lx, h0, X', hLx, e1, e2, ⟨⟨hv, hst⟩, hF⟩, go⟩ := hrun T hT X
  have hv' : v = some (.int x.1) := by injection hv
  subst hv'
  obtain ⟨hz, hk⟩ := hF
  rw [h0] at hz hk
  subst hq
  obtain ⟨t2, a1, b1⟩ := hkk T'.heap (locs ++ Lx) ls (by rw [e1]; exact hst)
    ⟨Nat.le_trans hS.1 (by rw [e1]; exact hz), fun q h1 h2 => by rw [e1, hk q (Nat.lt_of_lt_of_le h1 hS.1) h2]; exact hS.2.1 q h1 h2, fun q hq => by
      rcases List.mem_append.mp hq with h | h
      · exact hS.2.2 q h
      · exact hLx q h⟩ hLs T' rfl X'
  exact ⟨t2, go t2 a1, b1⟩
end LW
