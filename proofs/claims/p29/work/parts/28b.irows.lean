/-! the constructors' rows: fields, elements, calls -/
theorem sum_set : ∀ (l : List Nat) (k : Nat), (h : k < l.length) → (v : Nat) → v = l[k] → (l.set k v).sum = l.sum
  | [], _, h, _, _ => absurd h (Nat.not_lt_zero _)
  | a :: t, 0, _, v, e => by simp at e; simp [e]
  | a :: t, k + 1, h, v, e => by
    have := sum_set t k (by simpa using h) v (by simpa using e)
    simp [this]
theorem szA_set {A : AH} {k : Nat} {a : AC} (hk : k < A.length) (h : szC a = szC (A.getD k d0)) : szA (A.set k a) = szA A := by
  unfold szA
  rw [List.map_set]
  refine sum_set _ _ (by simpa using hk) _ ?_
  rw [h, List.getElem_map, List.getD_eq_getElem?_getD, List.getElem?_eq_getElem hk]
  rfl
theorem RepA.put {G : Gx} {A : AH} {H H1 : Heap} {k : Nat} {a : AC} (h : RepA G A H) (hn : 0 < Gn G) (hk : k < A.length) (hz : H1.size = H.size) (ho : ∀ q : Nat, q ≠ G.1 + k → H1[q]? = H[q]?) (ha : va_at (Dg G) vwCl (G.1 + k, cellA G a) H1) : RepA G (A.set k a) H1 := by
  obtain ⟨h1, h2⟩ := h
  refine ⟨by rw [hz, h1, List.length_set], ?_⟩
  rw [← wdA_set hk rfl]
  exact h2.set (wdA_apart hn) (wdA_get hk) ha ho
theorem fvA_set {G : Gx} {ci j code : Nat} {fs : List Nat} {v : Value} (hj : j < fs.length) (hl : fs.length = nf ci) (hv : fvA G ci j code = v) : ((List.range (nf ci)).map (fun b => fvA G ci b (fs.getD b 0))).set j v = (List.range (nf ci)).map (fun b => fvA G ci b ((fs.set j code).getD b 0)) := by
  apply List.ext_getElem?
  intro b
  by_cases h : b = j
  · subst h
    rw [List.getElem?_set_self (by simp; omega)]
    have : b < nf ci := by omega
    simp [this, hj, hv, List.getD_eq_getElem?_getD]
  · rw [List.getElem?_set_ne (Ne.symm h)]
    by_cases hb : b < nf ci
    · simp [hb, List.getD_eq_getElem?_getD, List.getElem?_set_ne (Ne.symm h)]
    · rw [List.getElem?_eq_none (by simp; omega), List.getElem?_eq_none (by simp; omega)]
section NR2
variable {Z : Zx} {cc : ByteArray} {nL : Nat} {own : String} {R : Type} {K : R → Prop} {e : Option R} {A : AH} {a0 s0 pc q : Nat} {L : List (Option Value)} {st : List Value}
theorem n_put {mc ms : Nat} (C : Cx Z cc nL own) (hCN : CN Z mc ms) {Cn : String} {T : u_T} {N ci idx k j code : Nat} {ty0 : Nat → FieldType} {ty : FieldType} {v : Value} {f : AH → Option R} (hin : ∀ w ∈ u_ws Cn T N, w ∈ LT) (hty : ∀ k, k < N → parseFieldDescriptor (T k).2.2.1 = some (ty0 k)) (hnm : ∀ a, a < N → ∀ b, b < N → a ≠ b → (T a).2.1 ≠ (T b).2.1)
    (hc : vwCl[ci]? = some (Cn, T, N)) (hj : j < nf ci) (hN : j < N) (lnk : Cond.fieldLink own idx (T j).1 (T j).2.1 (T j).2.2.1 ∈ LT) (hfin : (T j).2.2.2 = false ∨ ((T j).2.2.2 = true ∧ (zh Z).name = "<init>" ∧ (T j).1 = own)) (hd : parseFieldDescriptor (T j).2.2.1 = some ty)
    (hn : narrow ty v = v) (hft : fits ty v = true) (hv : fvA (zG Z) ci j code = v) (d : decode cc pc = .ok (.putfield idx, 3)) (hq : pc + 3 = q) (kk : ∀ A' : AH, WFN Z a0 s0 K (f A') A' q L st) : WFN Z a0 s0 K (gd (gO A k ci) (bnd (setA A k j code) f)) A pc L (v :: rf (zG Z) k :: st) := by
  intro x hx hx2 H locs ls hR hS hL
  obtain ⟨hg, hx⟩ := gd_some hx
  obtain ⟨hk, hA, hlen⟩ := gO_of hg
  have hts := C.ts
  have hap := va_apart (own := own) hts hin ty0 hty hnm C.K hc
  have hR0 := hR
  obtain ⟨hz, hP⟩ := hR
  have he : (wdA (zG Z) A)[k]? = some ((zG Z).1 + k, .inr (ci, (List.range (nf ci)).map (fun b => fvA (zG Z) ci b ((fsA A k).getD b 0)))) := by
    rw [wdA_get hk, hA]
    rfl
  obtain ⟨r, h1, cell, q1, q2, q3, q4⟩ := hP k _ he
  have hr : r = (Cn, T, N) := Option.some.inj (h1.symm.trans hc)
  subst hr
  obtain ⟨hSl, hfc, kC, hkC, hkind⟩ := C.K.1 ci _ hc
  obtain ⟨cf, kf, fi, fd, hi, hsl⟩ := hSl j hN
  have hst := (u_facts hfc hkC (u_lays hts hin hN) hi).1
  have after : ∀ H' : Heap, H'[(zG Z).1 + k]? = some (cell.setSlot fd.slot v) → H'.size = H.size → (∀ q, q ≠ (zG Z).1 + k → H'[q]? = H[q]?) → W (zp Z) (zl Z) (ze Z) (zR Z) (zs Z) (zm Z) (za Z) (zb Z) (zh Z) (zc Z) H' (locs ++ [⟨(zG Z).1 + k, fd.slot⟩]) (A.length - a0) (szA A - s0) Z.2.2.2.2 (F0 (zm Z) (pc + 3) ls st) := by
    intro H' e1 e2 e3
    have hR1 : RepA (zG Z) (setA A k j code) H' := by
      refine hR0.put hCN.2.2.2 hk e2 e3 ?_
      rw [hA]
      show va_at _ _ (_, .inr (ci, _)) _
      refine ⟨_, hc, t_OB.to (V := updV (vp_V ((List.range (nf ci)).map (fun b => fvA (zG Z) ci b ((fsA A k).getD b 0)))) j v) ⟨_, e1, q2, q3, ?_⟩ (fun b _ => ?_)⟩
      · rw [hsl]
        exact t_set q4 hap hN v
      · rw [vp_updV_set (by simpa using hj), fvA_set (code := code) (by omega) hlen hv]
    have hk1 := kk (setA A k j code) x hx hx2 H' (locs ++ [⟨(zG Z).1 + k, fd.slot⟩]) ls hR1 (hS.put e2 e3 ⟨Nat.le_add_right _ _, Or.inr hCN.2.2.2⟩) hL
    have c1 : (setA A k j code).length = A.length := List.length_set
    have c2 : szA (setA A k j code) = szA A := szA_set hk (by simp only [szC])
    rw [c1, c2] at hk1
    subst hq
    exact hk1
  rcases hfin with hfin | ⟨hfin, hin2, hdecl⟩
  · have hlay := hts _ (hin _ (u_in_lay hN))
    unfold u_lay at hlay
    rw [if_neg (by rw [hfin]; decide)] at hlay
    have h6 := u_store hfc hkC hkind hlay hi hd hn hft
    exact W.putK C.x C.b (f := fd) ⟨C.ow, hts _ lnk, ⟨_, _, _, hi⟩, hst⟩ (by rw [q2]; exact h6) q1 q3 (by rw [hsl]; exact k2_hasslot (q4 j hN)) rfl rfl d after
  · have hlay := hts _ (hin _ (u_in_lay hN))
    unfold u_lay at hlay
    rw [if_pos hfin] at hlay
    have hcf : (zm Z).cls = cf := by
      obtain ⟨_, _, c', _, _, _, -, -, hf', -, -, -, hown2, -⟩ := Cond.laysFinal_spec hlay
      have e1 : c' = cf := by have := hi.symm.trans hf'; simp at this; exact this.1.symm
      rw [hdecl] at hown2
      rw [← e1]; exact Option.some.inj (C.ow.symm.trans hown2)
    have h6 := u_fits hfc hkC hkind (Or.inr hlay) hi hd hn hft
    exact W.putFinK C.x C.b C.ow (hts _ lnk) hi hst hcf hin2 (by rw [q2]; exact h6) q1 q3 (by rw [hsl]; exact k2_hasslot (q4 j hN)) rfl rfl d after
/-- what a reference field holds -/
def fA (A : AH) (k j : Nat) : Nat := (fsA A k).getD j 0 - 1
def gF (A : AH) (k ci j : Nat) : Bool := gO A k ci && decide (0 < (fsA A k).getD j 0)
theorem n_getr (C : Cx Z cc nL own) {Cn : String} {T : u_T} {N ci idx k j : Nat} (hin : ∀ w ∈ u_ws Cn T N, w ∈ LT) (hc : vwCl[ci]? = some (Cn, T, N)) (hj : j < nf ci) (hN : j < N) (hfk : ¬ fk ci j = 0)
    (lnk : Cond.fieldLink own idx (T j).1 (T j).2.1 (T j).2.2.1 ∈ LT) (d : decode cc pc = .ok (.getfield idx, 3)) (hq : pc + 3 = q) (kk : WFN Z a0 s0 K e A q L (rf (zG Z) (fA A k j) :: st)) : WFN Z a0 s0 K (gd (gF A k ci j) e) A pc L (rf (zG Z) k :: st) := by
  intro x hx hx2 H locs ls hR hS hL
  obtain ⟨hg, hx⟩ := gd_some hx
  obtain ⟨hg, hpos⟩ := Bool.and_eq_true_iff.mp hg
  have hpos := of_decide_eq_true hpos
  obtain ⟨hk, hA, hlen⟩ := gO_of hg
  have hR0 := hR
  obtain ⟨hz, hP⟩ := hR
  have he : (wdA (zG Z) A)[k]? = some ((zG Z).1 + k, .inr (ci, (List.range (nf ci)).map (fun b => fvA (zG Z) ci b ((fsA A k).getD b 0)))) := by
    rw [wdA_get hk, hA]
    rfl
  refine va_get (D := Dg (zG Z)) (v := rf (zG Z) (fA A k j)) C.x C.b C.ts hin C.ow C.K hP k he hc j hN (C.ts _ lnk) (fun _ h => h) ?_ d (hq ▸ kk x hx hx2 H locs ls hR0 hS hL)
  simp only [List.getElem?_map, List.getElem?_range hj, Option.map_some, fvA, if_neg hfk, if_neg (Nat.ne_of_gt hpos)]
  rfl
theorem cellA_q {G : Gx} {t n : Nat} {fs : List Nat} : cellA G (t + 5, n, fs) = .inl (G.2.2.2.1 (t + 4), n, .inr (.inr (.inr (.inr (fun i => qA G (fs.getD i 0)))))) := rfl
theorem n_aast {mc ms : Nat} (C : Cx Z cc nL own) (hCN : CN Z mc ms) {k n t v ci : Nat} {r : vw_C} {i : Int32} {f : AH → Option R} (ht : (tysG (zG Z))[t + 4]? = some ((zG Z).2.2.2.1 (t + 4), .object r.1)) (hc : vwCl[ci]? = some r) (d : decode cc pc = .ok (.aastore, 1)) (hq : pc + 1 = q)
    (kk : ∀ A' : AH, WFN Z a0 s0 K (f A') A' q L st) : WFN Z a0 s0 K (gd (gR A k t n && (inb i n && gO A v ci)) (bnd (setA A k i.toNatClampNeg (v + 1)) f)) A pc L (rf (zG Z) v :: .int i :: rf (zG Z) k :: st) := by
  intro x hx hx2 H locs ls hR hS hL
  obtain ⟨hg, hx⟩ := gd_some hx
  obtain ⟨hg, hg2⟩ := Bool.and_eq_true_iff.mp hg
  obtain ⟨hib, hgv⟩ := Bool.and_eq_true_iff.mp hg2
  obtain ⟨hk, hA, hlen⟩ := gR_of hg
  obtain ⟨hkv, hAv, -⟩ := gO_of hgv
  have hR0 := hR
  obtain ⟨hz, hP⟩ := hR
  have hin := inb_in hib
  have hlt : i.toNatClampNeg < n := Nat.not_le.mp fun q => hin (Or.inr q)
  have h0 : ¬ i < 0 := fun q => hin (Or.inl q)
  have ha : (wdA (zG Z) A)[k]? = some ((zG Z).1 + k, .inl ((zG Z).2.2.2.1 (t + 4), n, .inr (.inr (.inr (.inr (fun i => qA (zG Z) ((fsA A k).getD i 0))))))) := by rw [wdA_get hk, hA, cellA_q]
  have hv : (wdA (zG Z) A)[v]? = some ((zG Z).1 + v, .inr (ci, (List.range (nf ci)).map (fun b => fvA (zG Z) ci b ((fsA A v).getD b 0)))) := by
    rw [wdA_get hkv, hAv]
    rfl
  obtain ⟨r', hr', cellV, g1, g2, g3, -⟩ := hP v _ hv
  have hcls := (C.K.1 ci r hc).2
  obtain ⟨kA, comp, k1, k2, k3, -⟩ := (C.K.2 (t + 4) _ ht).2
  have hcomp : comp = (Dg (zG Z)).1 ci := Option.some.inj (k3.symm.trans hcls.1)
  subst hcomp
  obtain ⟨kC, hkC, -⟩ := hcls.2
  refine W.aast C.x C.b (hP k _ ha) (fun q h => by cases h) (fun h => by cases h) k1 k2 rfl hkC ⟨h0, by show _ < (arrV _ _ _).slots.size; rw [arrV_size]; exact hlt⟩ g1 (fun q h => by rw [g3] at h; cases h) (by rw [g2]; exact hkC) (by rw [g2]; exact va_assign hcls) rfl rfl d fun H' e1 e2 e3 => ?_
  have hR1 : RepA (zG Z) (setA A k i.toNatClampNeg (v + 1)) H' := by
    refine hR0.put hCN.2.2.2 hk e2 e3 ?_
    rw [hA, cellA_q]
    show H'[(zG Z).1 + k]? = some (vp_cell _ _)
    rw [e1, vp_cell_q, vp_cell_q, arrV_store]
    congr 2
    funext b
    by_cases hb : b = i.toNatClampNeg
    · subst hb
      rw [List.getD_eq_getElem?_getD, List.getElem?_set_self (by omega)]
      simp [updV, va_rf, qA]
    · simp [updV, hb, List.getD_eq_getElem?_getD, List.getElem?_set_ne (Ne.symm hb)]
  have hk1 := kk (setA A k i.toNatClampNeg (v + 1)) x hx hx2 H' (locs ++ [⟨(zG Z).1 + k, i.toNatClampNeg⟩]) ls hR1 (hS.put e2 e3 ⟨Nat.le_add_right _ _, Or.inr hCN.2.2.2⟩) hL
  have c1 : (setA A k i.toNatClampNeg (v + 1)).length = A.length := List.length_set
  have c2 : szA (setA A k i.toNatClampNeg (v + 1)) = szA A := szA_set hk (by simp only [szC])
  rw [c1, c2] at hk1
  subst hq
  exact hk1
theorem n_obj (C : Cx Z cc nL own) {FR LO idx k : Nat} (hR : RM Z FR LO) (lnk : Cond.methodLink own idx Lib.objectInit ∈ LT) (m1 : Cond.instanceMethod Lib.objectInit ∈ LT) (m2 : Cond.code Lib.objectInit ⟨#[0xb1]⟩ 1 none ∈ LT) (hL : L.length = nL) (hfr : 1 ≤ FR) (hlo : 12 ≤ LO)
    (d : decode cc pc = .ok (.invokespecial idx, 3)) (hq : pc + 3 = q) (kk : WFN Z a0 s0 K e A q L []) : WFN Z a0 s0 K e A pc L [rf (zG Z) k] :=
  fun x hx hx2 H locs ls hRp hS hLs => W.objInit C.x C.b C.ow (C.ts _ lnk) (C.ts _ m1) (C.ts _ m2) rfl (by rw [C.ml]; show ls.size = nL; rw [hLs.1, hL]) rfl d (by rw [hR.1]; exact hfr) (by rw [hR.2]; show 0 + 0 + 12 ≤ LO; omega) (hq ▸ kk x hx hx2 H locs ls hRp hS hLs)
end NR2
/-! contracts of constructors -/
def FUN : Nat := 64
def rmN (fr lo mc ms : Nat) : Room := { frames := fr, cells := mc, slots := ms, locals := lo }
def StA (G : Gx) (A : AH) (U : State) : Prop := RepA G A U.heap ∧ KK G U
def QcA (G : Gx) (A' : AH) : Array Value → State → Outcome → State → Prop := fun _ st o t => (o = .returned none ∧ RepA G A' t.heap) ∧ va_F (Ab G) st t
def CtN (l : Launch) (G : Gx) (y : MethodName) (cc : ByteArray) (maxL fr lo mc ms : Nat) (av : List Value) (A A' : AH) : Prop :=
  Met l y [.code y cc maxL none] (rmN fr lo mc ms) (va_Pc av (StA G A)) (QcA G A') mc ms (Ab G)
theorem StA.blind {G : Gx} {A : AH} {av : List Value} : FrameBlind (va_Pc av (StA G A)) := by
  intro a U g mk h
  obtain ⟨h1, h2, h3⟩ := h
  exact ⟨h1, h2, h3.go (s := U) (locs := []) (State.WarmedH.refl U) va_S.rf rfl⟩
theorem CtN.of {l : Launch} {G : Gx} {y : MethodName} {cc : ByteArray} {maxL fr lo mc ms : Nat} {av : List Value} {A A' : AH} (hy : plainName y.cls = true) (hyn : y.name = "<init>") (hcat : (av.all fun v => v.category == 1) = true) (hlen : av.length ≤ maxL) (hn : 0 < Gn G)
    (body : ∀ Z : Zx, zG Z = G → zl Z = l → Cx Z cc maxL y.cls → CN Z mc ms → (zh Z).name = "<init>" → RM Z fr lo → RetN Z cc mc ms A' → WN Z A.length (szA A) A 0 (av.map some ++ List.replicate (maxL - av.length) none) []) : CtN l G y cc maxL fr lo mc ms av A A' := by
  have hcat : ∀ v ∈ av, v.category = 1 := fun v hv => by simpa using List.all_eq_true.mp hcat v hv
  refine Met.ofW (cc := cc) (maxL := maxL) (ret := none) hy rfl ?_
  intro p e s m args below meth c s₁ B hml hv
  obtain ⟨rfl, hR, hKK⟩ := hv
  have hown : s.vm.findClass y.cls = some m.cls := findClass_of_methodNamed B.named
  have hin : meth.name = "<init>" := (name_of_methodNamed B.named B.method).1.trans hyn
  have hb : c.code = cc := B.bytes
  have hr := B.returns
  have hx := B.exec
  have hlocks := B.notSynchronized
  have h0 : G.1 ≤ s.heap.size := by rw [hR.1]; exact Nat.le_add_right _ _
  rw [lg_entry_eq]
  have hb2 := body ((p, l, e, rmN fr lo mc ms, s, m, av.toArray, below, meth, c), G, 0, 0, MQ below (QcA G A') av.toArray s mc ms (Ab G)) rfl rfl ⟨B.exec, B.bytes, hml, hown, B.notSynchronized, hKK, Nat.zero_le _, Nat.zero_le _⟩ ⟨rfl, rfl, h0, hn⟩ hin ⟨rfl, rfl⟩ ?_ s.heap [] _ hR va_S.rf (hasL.entry av maxL hcat hlen)
  · rw [Nat.sub_self, Nat.sub_self] at hb2
    exact hb2
  · intro c9 n9 pc L l1 l2 d H locs ls hR hS hL
    exact W.widen (k := mc) (n := ms) l1 l2 (W.vret hx hb hr (fun t ht hW => ⟨⟨rfl, by rw [ht]; exact hR⟩, hS.F ht⟩) hS.2.2 d)
def gC (A A' : AH) (a0 s0 mc ms dc dn : Nat) : Bool := decide (a0 ≤ A.length ∧ s0 ≤ szA A ∧ A'.length = A.length + dc ∧ szA A' = szA A + dn ∧ A.length + dc ≤ a0 + mc ∧ szA A + dn ≤ s0 + ms)
abbrev MIp (y : MethodName) (bytes : ByteArray) (maxL n : Nat) : Prop :=
  Cond.instanceMethod y ∈ LT ∧ Cond.initialized y.cls ∈ LT ∧ Cond.code y bytes maxL none ∈ LT ∧ y.name = "<init>" ∧
  (y.cls ≠ "java/lang/invoke/MethodHandle" ∧ y.cls ≠ "java/lang/invoke/VarHandle" ∧ (parseMethodDescriptor y.desc).map (fun d => d.parameters.length) = some n)
section NC
variable {Z : Zx} {cc : ByteArray} {nL : Nat} {own : String} {R : Type} {K : R → Prop} {e : Option R} {A : AH} {a0 s0 pc q : Nat} {L : List (Option Value)} {st : List Value}
theorem wn_run {A' : AH} {H : Heap} {locs : List Loc} {ls : Array Slot} {st0 : List Value} {c n dc dn : Nat} (hS : va_S (Ab (zG Z)) (zs Z).heap H locs) (hL : hasL ls L)
    (hr : va_Run (zp Z) (zl Z) (ze Z) (zR Z) (zs Z) (zm Z) (za Z) (zb Z) (zh Z) (zc Z) H locs c n dc dn (F0 (zm Z) pc ls st0) st (fun st o t => (o = .returned none ∧ RepA (zG Z) A' t.heap) ∧ va_F (Ab (zG Z)) st t) (Ab (zG Z)))
    (k : ∀ (H : Heap) (locs : List Loc) (ls : Array Slot), RepA (zG Z) A' H → va_S (Ab (zG Z)) (zs Z).heap H locs → hasL ls L → WZ (Zb Z (c + dc) (n + dn)) H locs (F0 (zm Z) (pc + 3) ls st)) : WZ (Zb Z c n) H locs (F0 (zm Z) pc ls st0) := by
  intro T hT X
  obtain ⟨v, st₀, t, T', Lx, h0, X', hLx, e1, e2, ⟨⟨hv, hst⟩, hF⟩, go⟩ := hr T hT X
  have hv' : v = none := by injection hv
  subst hv'
  obtain ⟨hz, hk⟩ := hF
  rw [h0] at hz hk
  obtain ⟨t2, a1, b1⟩ := k T'.heap (locs ++ Lx) ls (by rw [e1]; exact hst)
    ⟨Nat.le_trans hS.1 (by rw [e1]; exact hz), fun q h1 h2 => by rw [e1, hk q (Nat.lt_of_lt_of_le h1 hS.1) h2]; exact hS.2.1 q h1 h2, fun q hq => by
      rcases List.mem_append.mp hq with h | h
      · exact hS.2.2 q h
      · exact hLx q h⟩ hL T' rfl X'
  exact ⟨t2, go t2 a1, b1⟩
theorem n_callI (C : Cx Z cc nL own) {FR LO mc ms : Nat} (hR : RM Z FR LO) (N : CN Z mc ms) {idx maxL fr lo n k dc dn : Nat} {y : MethodName} {bytes : ByteArray} {As st0 : List Value} {f : Option AH} {rest : AH → Option R}
    (hc : ∀ A', f = some A' → CtN (zl Z) (zG Z) y bytes maxL fr lo dc dn (rf (zG Z) k :: As) A A') (mv : MIp y bytes maxL n) (lnk : Cond.methodLink own idx y ∈ LT) (hn : As.length = n) (hfr : fr + 1 ≤ FR ∧ 8 + (maxL + 11) + lo ≤ LO)
    (hroom : (st.map fun v => v.category).sum ≤ 8) (hst : st0 = As.reverse ++ rf (zG Z) k :: st) (hL : L.length = nL) (d : decode cc pc = .ok (.invokespecial idx, 3)) (hq : pc + 3 = q) (kk : ∀ A', WFN Z a0 s0 K (rest A') A' q L st) : WFN Z a0 s0 K (Option.bind f fun A' => gd (gC A A' a0 s0 mc ms dc dn) (rest A')) A pc L st0 := by
  intro r hr hkr H locs ls hRp hS hLs
  obtain ⟨A', h1, h2⟩ := Option.bind_eq_some_iff.mp hr
  obtain ⟨hg, h2⟩ := gd_some h2
  simp only [gC, decide_eq_true_eq] at hg
  subst hst
  obtain ⟨mi, mini, mcode, hyn, md⟩ := mv
  have hts := C.ts
  have hkk := kk A' r h2 hkr
  have c1 : A'.length - a0 = A.length - a0 + dc := by omega
  have c2 : szA A' - s0 = szA A - s0 + dn := by omega
  unfold WN at hkk
  rw [c1, c2] at hkk
  subst hq
  refine wn_run (dc := dc) (dn := dn) hS hLs (va_runI (As := As) (rest := st) ⟨C.x, C.b, C.ml, C.ow, hts⟩ (hc A' h1)
    ⟨callB_of n hts (GoodIn.one mcode rfl) rfl rfl rfl (hts _ mini) (hts _ lnk) md (by rw [hR.1, hR.2]; exact hfr), hyn, hts _ mi⟩
    ⟨StA.blind, fun U hU hW => ⟨rfl, by rw [hU]; exact hRp, C.kk.go hW hS hU⟩⟩ rfl hn (by rw [hLs.1]; exact hL) rfl (lv_room hroom) d ⟨by show A.length - a0 + dc ≤ (zR Z).cells; rw [N.1]; omega, by show szA A - s0 + dn ≤ (zR Z).slots; rw [N.2.1]; omega⟩) hkk
theorem n_callIN (C : Cx Z cc nL own) {FR LO mc ms : Nat} (hR : RM Z FR LO) (N : CN Z mc ms) {idx maxL fr lo n k dc dn : Nat} {y : MethodName} {host : String} {bytes : ByteArray} {As st0 : List Value} {f : Option AH} {rest : AH → Option R}
    (hc : ∀ A', f = some A' → CtN (zl Z) (zG Z) y bytes maxL fr lo dc dn (rf (zG Z) k :: As) A A') (mv : MIp y bytes maxL n) (lnk : Cond.methodLinkNest own idx y host ∈ LT) (hn : As.length = n) (hfr : fr + 1 ≤ FR ∧ 8 + (maxL + 11) + lo ≤ LO)
    (hroom : (st.map fun v => v.category).sum ≤ 8) (hst : st0 = As.reverse ++ rf (zG Z) k :: st) (hL : L.length = nL) (d : decode cc pc = .ok (.invokespecial idx, 3)) (hq : pc + 3 = q) (kk : ∀ A', WFN Z a0 s0 K (rest A') A' q L st) : WFN Z a0 s0 K (Option.bind f fun A' => gd (gC A A' a0 s0 mc ms dc dn) (rest A')) A pc L st0 := by
  intro r hr hkr H locs ls hRp hS hLs
  obtain ⟨A', h1, h2⟩ := Option.bind_eq_some_iff.mp hr
  obtain ⟨hg, h2⟩ := gd_some h2
  simp only [gC, decide_eq_true_eq] at hg
  subst hst
  obtain ⟨mi, mini, mcode, hyn, md⟩ := mv
  have hts := C.ts
  have hkk := kk A' r h2 hkr
  have c1 : A'.length - a0 = A.length - a0 + dc := by omega
  have c2 : szA A' - s0 = szA A - s0 + dn := by omega
  unfold WN at hkk
  rw [c1, c2] at hkk
  subst hq
  refine wn_run (dc := dc) (dn := dn) hS hLs (va_runIN (As := As) (rest := st) (host := host) ⟨C.x, C.b, C.ml, C.ow, hts⟩ (hc A' h1)
    ⟨va_cnB n hts (GoodIn.one mcode rfl) rfl rfl rfl (va_Nw.of rfl (hts _ lnk)) (hts _ mini) md (by rw [hR.1, hR.2]; exact hfr), hyn, hts _ mi⟩
    ⟨StA.blind, fun U hU hW => ⟨rfl, by rw [hU]; exact hRp, C.kk.go hW hS hU⟩⟩ rfl hn (by rw [hLs.1]; exact hL) rfl (lv_room hroom) d ⟨by show A.length - a0 + dc ≤ (zR Z).cells; rw [N.1]; omega, by show szA A - s0 + dn ≤ (zR Z).slots; rw [N.2.1]; omega⟩) hkk
theorem n_loopF {α β : Type} {body : α → Option (α ⊕ β)} {ah : α → AH} {lo : α → List (Option Value)} {a : α} {rest : β → Option R} {E : β → Prop} (hb : ∀ a, WFN Z a0 s0 (loopK (fun a => WN Z a0 s0 (ah a) pc (lo a) []) E) (body a) (ah a) pc (lo a) [])
    (hx : ∀ b x, rest b = some x → K x → E b) : WFN Z a0 s0 K (Option.bind (loopF body FUN a) rest) (ah a) pc (lo a) [] := by
  intro x hx1 hk
  obtain ⟨b, h1, h2⟩ := Option.bind_eq_some_iff.mp hx1
  exact w_loop (hd := fun a => WN Z a0 s0 (ah a) pc (lo a) []) (E := E) (fun a y h h' => hb a y h h') FUN a b h1 (hx b x h2 hk)
end NC
