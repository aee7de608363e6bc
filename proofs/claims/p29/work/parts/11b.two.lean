/-! the law's two objects: a call of one of them leaves the other as it was -/
theorem cellR_lo {G : Gx} {row : Nat → Int32} {k : Nat} : cellR (loG G) row k = cellR G row k := rfl
theorem mg2_lo {I : Mem2} {k : Nat} (hk : k < NN) : mg2 I k = I.1 k := by
  funext b
  simp [mg2, hk]
theorem mg2_hi {I : Mem2} : hi (mg2 I) = I.2 := by
  funext a b
  show (if a + NN < NN then I.1 (a + NN) b else I.2 (a + NN - NN) b) = I.2 a b
  rw [if_neg (by omega), Nat.add_sub_cancel]
theorem rep_n0 {G : Gx} {I : Mem} {H : Heap} (hn : Gn G = 0) : Rep G I H ↔ ∀ k, k < NN → va_at (Dg G) vwCl (G.1 + k, cellR G (I k) k) H := by
  constructor
  · intro h k hk
    exact h k _ (wd_get hk)
  · intro h j q hq
    rcases wd_at hq with ⟨a, rfl⟩ | ⟨h0, _⟩
    · exact h j a
    · exact absurd hn h0
theorem rep2 {G : Gx} {I : Mem2} {H : Heap} (hn : Gn G = 1) : Rep G (mg2 I) H ↔ Rep (loG G) I.1 H ∧ Rep (shG G) I.2 H := by
  rw [rep_n0 (G := loG G) rfl, rep_n0 (G := shG G) rfl]
  constructor
  · intro h
    refine ⟨fun k hk => ?_, fun k hk => ?_⟩
    · have := h k _ (wd_get hk)
      rw [mg2_lo hk] at this
      exact this
    · have := h (NN + k) _ (wd_get2 (by rw [hn]; decide) hk)
      rw [mg2_hi] at this
      exact this
  · rintro ⟨h1, h2⟩ j q hq
    rcases wd_at hq with ⟨a, rfl⟩ | ⟨_, k, hk, rfl, rfl⟩
    · rw [mg2_lo a]
      exact h1 j a
    · rw [mg2_hi]
      exact h2 k hk
theorem va_at_lt {D : va_G} {cl : List vw_C} {q : Nat × va_E} {H : Heap} (h : va_at D cl q H) : q.1 < H.size := by
  obtain ⟨a, e⟩ := q
  cases e with
  | inl x => exact (Array.getElem?_eq_some_iff.mp h).1
  | inr o =>
    obtain ⟨r, h1, cell, q1, q2⟩ := h
    exact (Array.getElem?_eq_some_iff.mp q1).1
theorem Ab_lo {G : Gx} {q : Nat} (h : Ab (loG G) q) (hn : Gn G = 1) : Ab G q := ⟨h.1, Or.inr (by rw [hn]; decide)⟩
theorem Ab_sh {G : Gx} {q : Nat} (h : Ab (shG G) q) (hn : Gn G = 1) : Ab G q := ⟨Nat.le_trans (Nat.le_add_right _ _) h.1, Or.inr (by rw [hn]; decide)⟩
theorem keep_sh {G : Gx} {J : Mem} {st t : State} (h : Rep (shG G) J st.heap) (hF : va_F (Ab (loG G)) st t) : Rep (shG G) J t.heap := by
  rw [rep_n0 rfl] at h ⊢
  intro k hk
  have h1 := h k hk
  refine h1.kept (hF.2 _ (va_at_lt h1) ?_)
  rintro ⟨_, h3 | h3⟩
  · have h3 : G.1 + NN + k < G.1 + NN := h3
    omega
  · exact absurd h3 (Nat.lt_irrefl 0)
theorem keep_lo {G : Gx} {J : Mem} {st t : State} (h : Rep (loG G) J st.heap) (hF : va_F (Ab (shG G)) st t) : Rep (loG G) J t.heap := by
  rw [rep_n0 rfl] at h ⊢
  intro k hk
  have h1 := h k hk
  refine h1.kept (hF.2 _ (va_at_lt h1) ?_)
  rintro ⟨h3, _⟩
  have h3 : G.1 + NN ≤ G.1 + k := h3
  omega
section CR2
variable {Z : Zx} {cc : ByteArray} {nL : Nat} {own : String} {R : Type} {K : R → Prop} {e : Option R} {pc q : Nat} {L : List (Option Value)} {st : List Value}
theorem wm_run2 {Gc : Gx} {rv : Option Value} {I' I2 : Mem} {H : Heap} {locs : List Loc} {ls : Array Slot} {st0 st9 : List Value} (hst1 : st9 = rv.toList ++ st) (hn : Gn (zG Z) = 1) (hA : ∀ q, Ab Gc q → Ab (zG Z) q) (hS : va_S (Ab (zG Z)) (zs Z).heap H locs) (hL : hasL ls L)
    (hr : va_Run (zp Z) (zl Z) (ze Z) (zR Z) (zs Z) (zm Z) (za Z) (zb Z) (zh Z) (zc Z) H locs Z.2.2.1 Z.2.2.2.1 0 0 (F0 (zm Z) pc ls st0) st (fun st o t => (o = .returned rv ∧ Rep Gc I' t.heap) ∧ va_F (Ab Gc) st t) (Ab Gc))
    (hrep : ∀ st t : State, st.heap = H → Rep Gc I' t.heap → va_F (Ab Gc) st t → Rep (zG Z) I2 t.heap)
    (k : WM Z I2 (pc + 3) L st9) : WZ Z H locs (F0 (zm Z) pc ls st0) := by
  intro T hT X
  obtain ⟨v, st₀, t, T', Lx, h0, X', hLx, e1, e2, ⟨⟨hv, hst⟩, hF⟩, go⟩ := hr T hT X
  have hv' : v = rv := by injection hv
  subst hv'
  subst hst1
  have hrp := hrep st₀ t h0 hst hF
  obtain ⟨hz, hk⟩ := hF
  rw [h0] at hz hk
  obtain ⟨t2, a1, b1⟩ := k T'.heap (locs ++ Lx) ls (by rw [e1]; exact hrp)
    ⟨Nat.le_trans hS.1 (by rw [e1]; exact hz), fun q h1 h2 => by rw [e1, hk q (Nat.lt_of_lt_of_le h1 hS.1) (fun h => h2 (hA q h))]; exact hS.2.1 q h1 h2, fun q hq => by
      rcases List.mem_append.mp hq with h | h
      · exact hS.2.2 q h
      · exact hA _ (hLx q h)⟩ hL T' rfl X'
  exact ⟨t2, go t2 a1, b1⟩
theorem w_callVO (C : Cx Z cc nL own) {FR LO : Nat} (hR : RM Z FR LO) (hn : Gn (zG Z) = 1) {idx maxL fr lo n : Nat} {y : MethodName} {bytes : ByteArray} {ret : Option FieldType} {As st0 : List Value} {X : Type} {f : Option X} {val : X → Option Value} {mem : X → Mem} {rest : X → Option R} {I : Mem2}
    (hc : ∀ x, f = some x → Ct (zl Z) (loG (zG Z)) y bytes maxL ret fr lo (rf (zG Z) 0 :: As) I.1 (val x) (mem x)) (hk : isO 0 11) (mv : MVp 11 y bytes maxL ret n) (lnk : Cond.methodLink own idx y ∈ LT) (hl : As.length = n) (hfr : fr + 1 ≤ FR ∧ 8 + (maxL + 11) + lo ≤ LO)
    {st1 : X → List Value} (hst1 : ∀ x, (val x).toList ++ st = st1 x) (hroom : (st.map fun v => v.category).sum ≤ 8) (hst : st0 = As.reverse ++ rf (zG Z) 0 :: st) (hL : L.length = nL) (d : decode cc pc = .ok (.invokevirtual idx, 3)) (hq : pc + 3 = q) (kk : ∀ x, WF Z K (rest x) (mg2 (mem x, I.2)) q L (st1 x)) : WF Z K (Option.bind f rest) (mg2 I) pc L st0 := by
  intro r hr hkr H locs ls hRp hS hLs
  obtain ⟨x, h1, h2⟩ := Option.bind_eq_some_iff.mp hr
  subst hst
  obtain ⟨⟨T, N, hcl⟩, mi, msel, mini, mcode, md⟩ := mv
  have hts := C.ts
  obtain ⟨hRl, hRs⟩ := (rep2 hn).mp hRp
  have hRm := hRl
  have hRo := hRs
  have hget : (wd (loG (zG Z)) I.1)[0]? = some ((zG Z).1 + 0, Sum.inr (11, (List.range (nf 11)).map (fV (loG (zG Z)) (I.1 0) 11 0))) := by
    rw [wd_get (G := (loG (zG Z))) (show 0 < NN by decide), cell_O hk]
    rfl
  refine wm_run2 (Gc := (loG (zG Z))) (I2 := mg2 (mem x, I.2)) (hst1 := rfl) hn (fun _ h => Ab_lo h hn) hS hLs (va_runV (As := As) (rest := st) (C := y.cls) ⟨C.x, C.b, C.ml, C.ow, hts⟩ (hc x h1)
    ⟨callB_of n hts (GoodIn.one mcode rfl) rfl rfl rfl (hts _ mini) (hts _ lnk) md (by rw [hR.1, hR.2]; exact hfr), hts _ mi, hts _ msel⟩
    ⟨St.blind, va_recv (D := Dg (zG Z)) C.K hRm hcl hget, fun U hU hW => ⟨rfl, by rw [hU]; exact hRm, (C.kk.go hW hS hU).lo⟩⟩ rfl hl (by rw [hLs.1]; exact hL) rfl (lv_room hroom) d ⟨by have := C.hc; exact this, by have := C.hs; exact this⟩) (fun st t hhh hst hF => by rw [← hhh] at hRo; exact (rep2 hn).mpr ⟨hst, keep_sh hRo hF⟩) ?_
  rw [hst1]
  exact hq ▸ kk x r h2 hkr
theorem w_callVP (C : Cx Z cc nL own) {FR LO : Nat} (hR : RM Z FR LO) (hn : Gn (zG Z) = 1) {idx maxL fr lo n : Nat} {y : MethodName} {bytes : ByteArray} {ret : Option FieldType} {As st0 : List Value} {X : Type} {f : Option X} {val : X → Option Value} {mem : X → Mem} {rest : X → Option R} {I : Mem2}
    (hc : ∀ x, f = some x → Ct (zl Z) (shG (zG Z)) y bytes maxL ret fr lo (rf (zG Z) 196 :: As) I.2 (val x) (mem x)) (hk : isO 0 11) (mv : MVp 11 y bytes maxL ret n) (lnk : Cond.methodLink own idx y ∈ LT) (hl : As.length = n) (hfr : fr + 1 ≤ FR ∧ 8 + (maxL + 11) + lo ≤ LO)
    {st1 : X → List Value} (hst1 : ∀ x, (val x).toList ++ st = st1 x) (hroom : (st.map fun v => v.category).sum ≤ 8) (hst : st0 = As.reverse ++ rf (zG Z) 196 :: st) (hL : L.length = nL) (d : decode cc pc = .ok (.invokevirtual idx, 3)) (hq : pc + 3 = q) (kk : ∀ x, WF Z K (rest x) (mg2 (I.1, mem x)) q L (st1 x)) : WF Z K (Option.bind f rest) (mg2 I) pc L st0 := by
  intro r hr hkr H locs ls hRp hS hLs
  obtain ⟨x, h1, h2⟩ := Option.bind_eq_some_iff.mp hr
  subst hst
  obtain ⟨⟨T, N, hcl⟩, mi, msel, mini, mcode, md⟩ := mv
  have hts := C.ts
  obtain ⟨hRl, hRs⟩ := (rep2 hn).mp hRp
  have hRm := hRs
  have hRo := hRl
  have hget : (wd (shG (zG Z)) I.2)[0]? = some ((zG Z).1 + 196, Sum.inr (11, (List.range (nf 11)).map (fV (shG (zG Z)) (I.2 0) 11 0))) := by
    rw [wd_get (G := (shG (zG Z))) (show 0 < NN by decide), cell_O hk]
    rfl
  refine wm_run2 (Gc := (shG (zG Z))) (I2 := mg2 (I.1, mem x)) (hst1 := rfl) hn (fun _ h => Ab_sh h hn) hS hLs (va_runV (As := As) (rest := st) (C := y.cls) ⟨C.x, C.b, C.ml, C.ow, hts⟩ (hc x h1)
    ⟨callB_of n hts (GoodIn.one mcode rfl) rfl rfl rfl (hts _ mini) (hts _ lnk) md (by rw [hR.1, hR.2]; exact hfr), hts _ mi, hts _ msel⟩
    ⟨St.blind, va_recv (D := Dg (zG Z)) C.K hRm hcl hget, fun U hU hW => ⟨rfl, by rw [hU]; exact hRm, (C.kk.go hW hS hU).sh⟩⟩ rfl hl (by rw [hLs.1]; exact hL) rfl (lv_room hroom) d ⟨by have := C.hc; exact this, by have := C.hs; exact this⟩) (fun st t hhh hst hF => by rw [← hhh] at hRo; exact (rep2 hn).mpr ⟨keep_lo hRo hF, hst⟩) ?_
  rw [hst1]
  exact hq ▸ kk x r h2 hkr
theorem w_callSO (C : Cx Z cc nL own) {FR LO : Nat} (hR : RM Z FR LO) (hn : Gn (zG Z) = 1) {idx maxL fr lo n : Nat} {y : MethodName} {bytes : ByteArray} {ret : Option FieldType} {As st0 : List Value} {X : Type} {f : Option X} {val : X → Option Value} {mem : X → Mem} {rest : X → Option R} {I : Mem2}
    (hc : ∀ x, f = some x → Ct (zl Z) (loG (zG Z)) y bytes maxL ret fr lo (As) I.1 (val x) (mem x)) (mv : MSp y bytes maxL ret n) (lnk : Cond.methodLink own idx y ∈ LT) (hl : As.length = n) (hfr : fr + 1 ≤ FR ∧ 8 + (maxL + 11) + lo ≤ LO)
    {st1 : X → List Value} (hst1 : ∀ x, (val x).toList ++ st = st1 x) (hroom : (st.map fun v => v.category).sum ≤ 8) (hst : st0 = As.reverse ++ st) (hL : L.length = nL) (d : decode cc pc = .ok (.invokestatic idx, 3)) (hq : pc + 3 = q) (kk : ∀ x, WF Z K (rest x) (mg2 (mem x, I.2)) q L (st1 x)) : WF Z K (Option.bind f rest) (mg2 I) pc L st0 := by
  intro r hr hkr H locs ls hRp hS hLs
  obtain ⟨x, h1, h2⟩ := Option.bind_eq_some_iff.mp hr
  subst hst
  obtain ⟨mi, mini, mcode, md⟩ := mv
  have hts := C.ts
  obtain ⟨hRl, hRs⟩ := (rep2 hn).mp hRp
  have hRm := hRl
  have hRo := hRs
  refine wm_run2 (Gc := (loG (zG Z))) (I2 := mg2 (mem x, I.2)) (hst1 := rfl) hn (fun _ h => Ab_lo h hn) hS hLs (va_runS (As := As) (rest := st) ⟨C.x, C.b, C.ml, C.ow, hts⟩ (hc x h1)
    ⟨callB_of n hts (GoodIn.one mcode rfl) rfl rfl rfl (hts _ mini) (hts _ lnk) md (by rw [hR.1, hR.2]; exact hfr), hts _ mi⟩
    ⟨St.blind, fun U hU hW => ⟨rfl, by rw [hU]; exact hRm, (C.kk.go hW hS hU).lo⟩⟩ rfl hl (by rw [hLs.1]; exact hL) rfl (lv_room hroom) d ⟨by have := C.hc; exact this, by have := C.hs; exact this⟩) (fun st t hhh hst hF => by rw [← hhh] at hRo; exact (rep2 hn).mpr ⟨hst, keep_sh hRo hF⟩) ?_
  rw [hst1]
  exact hq ▸ kk x r h2 hkr
theorem w_callSP (C : Cx Z cc nL own) {FR LO : Nat} (hR : RM Z FR LO) (hn : Gn (zG Z) = 1) {idx maxL fr lo n : Nat} {y : MethodName} {bytes : ByteArray} {ret : Option FieldType} {As st0 : List Value} {X : Type} {f : Option X} {val : X → Option Value} {mem : X → Mem} {rest : X → Option R} {I : Mem2}
    (hc : ∀ x, f = some x → Ct (zl Z) (shG (zG Z)) y bytes maxL ret fr lo (As) I.2 (val x) (mem x)) (mv : MSp y bytes maxL ret n) (lnk : Cond.methodLink own idx y ∈ LT) (hl : As.length = n) (hfr : fr + 1 ≤ FR ∧ 8 + (maxL + 11) + lo ≤ LO)
    {st1 : X → List Value} (hst1 : ∀ x, (val x).toList ++ st = st1 x) (hroom : (st.map fun v => v.category).sum ≤ 8) (hst : st0 = As.reverse ++ st) (hL : L.length = nL) (d : decode cc pc = .ok (.invokestatic idx, 3)) (hq : pc + 3 = q) (kk : ∀ x, WF Z K (rest x) (mg2 (I.1, mem x)) q L (st1 x)) : WF Z K (Option.bind f rest) (mg2 I) pc L st0 := by
  intro r hr hkr H locs ls hRp hS hLs
  obtain ⟨x, h1, h2⟩ := Option.bind_eq_some_iff.mp hr
  subst hst
  obtain ⟨mi, mini, mcode, md⟩ := mv
  have hts := C.ts
  obtain ⟨hRl, hRs⟩ := (rep2 hn).mp hRp
  have hRm := hRs
  have hRo := hRl
  refine wm_run2 (Gc := (shG (zG Z))) (I2 := mg2 (I.1, mem x)) (hst1 := rfl) hn (fun _ h => Ab_sh h hn) hS hLs (va_runS (As := As) (rest := st) ⟨C.x, C.b, C.ml, C.ow, hts⟩ (hc x h1)
    ⟨callB_of n hts (GoodIn.one mcode rfl) rfl rfl rfl (hts _ mini) (hts _ lnk) md (by rw [hR.1, hR.2]; exact hfr), hts _ mi⟩
    ⟨St.blind, fun U hU hW => ⟨rfl, by rw [hU]; exact hRm, (C.kk.go hW hS hU).sh⟩⟩ rfl hl (by rw [hLs.1]; exact hL) rfl (lv_room hroom) d ⟨by have := C.hc; exact this, by have := C.hs; exact this⟩) (fun st t hhh hst hF => by rw [← hhh] at hRo; exact (rep2 hn).mpr ⟨keep_lo hRo hF, hst⟩) ?_
  rw [hst1]
  exact hq ▸ kk x r h2 hkr
end CR2
