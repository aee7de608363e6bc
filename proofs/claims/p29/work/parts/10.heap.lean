/-! rows over the persistent objects -/
def okc (v : Int32) : Bool := decide (0 ≤ v ∧ v ≤ 65535)
def okz (v : Int32) : Bool := decide (v = 0 ∨ v = 1)
theorem okc_nI {v : Int32} (h : okc v = true) : ∃ n : Nat, n < 65536 ∧ v = nI n := by
  simp only [okc, decide_eq_true_eq] at h
  obtain ⟨j, h1, h2⟩ := nI_of2 (M := 65535) (n := 65535) (by decide) (x := v) (by rw [Int32.not_lt]; exact h.1) h.2
  exact ⟨j, by omega, h2⟩
theorem okc_n {v : Int32} (h : okc v = true) : narrow .char (.int v) = .int v ∧ fits .char (.int v) = true := by
  obtain ⟨n, h1, rfl⟩ := okc_nI h
  exact pk_charN h1
theorem okz_n {v : Int32} (h : okz v = true) : narrow .boolean (.int v) = .int v ∧ fits .boolean (.int v) = true := by
  simp only [okz, decide_eq_true_eq] at h
  rcases h with rfl | rfl <;> exact ⟨by decide, by decide⟩
theorem okc_v {v : Int32} (h : okc v = true) : vp_nar .char v = v := by
  have := (okc_n h).1
  exact Value.int.inj this
theorem okz_v {v : Int32} (h : okz v = true) : vp_nar .boolean v = v := by
  have := (okz_n h).1
  exact Value.int.inj this
theorem gd_some {R : Type} {b : Bool} {e : Option R} {x : R} (h : gd b e = some x) : b = true ∧ e = some x := by
  cases b with
  | true => exact ⟨rfl, h⟩
  | false => cases h
section HR
variable {Z : Zx} {cc : ByteArray} {nL : Nat} {own : String} {R : Type} {K : R → Prop} {e : Option R} {I : Mem} {pc q : Nat} {L : List (Option Value)} {st : List Value}
theorem w_get (C : Cx Z cc nL own) {Cn : String} {T : u_T} {N ci idx k j : Nat} {v : Value} (hin : ∀ w ∈ u_ws Cn T N, w ∈ LT) (hc : vwCl[ci]? = some (Cn, T, N)) (hk : isO k ci) (hj : j < nf ci) (hN : j < N)
    (lnk : Cond.fieldLink own idx (T j).1 (T j).2.1 (T j).2.2.1 ∈ LT) (hv : fV (zG Z) (I k) ci k j = v) (d : decode cc pc = .ok (.getfield idx, 3)) (hq : pc + 3 = q) (kk : WF Z K e I q L (v :: st)) : WF Z K e I pc L (rf (zG Z) k :: st) :=
  fun x hx hx2 H locs ls hR hS hL => va_get (D := Dg (zG Z)) C.x C.b C.ts hin C.ow C.K hR k (by rw [wd_get hk.1, cell_O hk]) hc j hN (C.ts _ lnk) (fun _ h => h) (by rw [fs_get hj, hv]) d (hq ▸ kk x hx hx2 H locs ls hR hS hL)
theorem w_getN (C : Cx Z cc nL own) {Cn host : String} {T : u_T} {N ci idx k j : Nat} {v : Value} (hin : ∀ w ∈ u_ws Cn T N, w ∈ LT) (hc : vwCl[ci]? = some (Cn, T, N)) (hk : isO k ci) (hj : j < nf ci) (hN : j < N)
    (lnk : Cond.fieldLinkNest own idx (T j).1 (T j).2.1 (T j).2.2.1 host ∈ LT) (hv : fV (zG Z) (I k) ci k j = v) (d : decode cc pc = .ok (.getfield idx, 3)) (hq : pc + 3 = q) (kk : WF Z K e I q L (v :: st)) : WF Z K e I pc L (rf (zG Z) k :: st) :=
  fun x hx hx2 H locs ls hR hS hL => va_getN (D := Dg (zG Z)) C.x C.b C.ts hin C.ow C.K hR k (by rw [wd_get hk.1, cell_O hk]) hc j hN (C.ts _ lnk) (fun _ h => h) (by rw [fs_get hj, hv]) d (hq ▸ kk x hx hx2 H locs ls hR hS hL)
theorem fV_i {G : Gx} {row : Nat → Int32} {ci k j : Nat} (h : fk ci j = 0) : fV G row ci k j = .int (row j) := by simp only [fV, h]
theorem fV_r {G : Gx} {row : Nat → Int32} {ci k j t : Nat} (h : fk ci j = 1) (ht : tgt k j = t) : fV G row ci k j = rf G t := by simp only [fV, h, ht]; rfl
theorem fV_m {G : Gx} {row : Nat → Int32} {ci k j : Nat} (h : fk ci j = 2) : fV G row ci k j = rf G (row j).toNatClampNeg := by simp only [fV, h]; rfl
/-- a putfield: the memory behind it is bound to a name -/
theorem w_put (C : Cx Z cc nL own) {Cn : String} {T : u_T} {N ci idx k j : Nat} {ty0 : Nat → FieldType} {ty : FieldType} {v : Value} {z : Int32} {f : Mem → Option R} (hin : ∀ w ∈ u_ws Cn T N, w ∈ LT) (hty : ∀ k, k < N → parseFieldDescriptor (T k).2.2.1 = some (ty0 k)) (hnm : ∀ a, a < N → ∀ b, b < N → a ≠ b → (T a).2.1 ≠ (T b).2.1)
    (hc : vwCl[ci]? = some (Cn, T, N)) (hk : isO k ci) (hj : j < nf ci) (hN : j < N) (lnk : Cond.fieldLink own idx (T j).1 (T j).2.1 (T j).2.2.1 ∈ LT) (hfin : (T j).2.2.2 = false) (hd : parseFieldDescriptor (T j).2.2.1 = some ty)
    (hn : narrow ty v = v) (hft : fits ty v = true) (hv : ∀ row : Nat → Int32, row j = z → fV (zG Z) row ci k j = v) (d : decode cc pc = .ok (.putfield idx, 3)) (hq : pc + 3 = q) (kk : ∀ I' : Mem, WF Z K (f I') I' q L st) : WF Z K (bnd (ms I k j z) f) I pc L (v :: rf (zG Z) k :: st) :=
  fun x hx hx2 H locs ls hR hS hL => va_put (D := Dg (zG Z)) C.x C.b C.ts hin ty0 hty hnm C.ow C.K hR wd_apart hS k (by rw [wd_get hk.1, cell_O hk]) hc j hN (C.ts _ lnk) (fun _ h => h) hfin hd hn hft (by rw [List.length_map, List.length_range]; exact hj) d
    (fun H1 locs1 hP1 _ hS1 => hq ▸ kk (ms I k j z) x hx hx2 H1 locs1 ls (by
      have e1 : (wd (zG Z) I).set k ((zG Z).1 + k, Sum.inr (ci, ((List.range (nf ci)).map (fV (zG Z) (I k) ci k)).set j v)) = wd (zG Z) (ms I k j z) :=
        wd_set hk.1 (by rw [cell_O hk, ms_row, fs_set (v := z) (hv (upd (I k) j z) (by simp [upd]))]) (fun a ha => ms_ne ha)
      rw [e1] at hP1
      exact hP1) hS1 hL)
theorem w_iald (C : Cx Z cc nL own) {k n : Nat} {i : Int32} (hk : isA k 0 n) (d : decode cc pc = .ok (.iaload, 1)) (hq : pc + 1 = q) (kk : inb i n = true → WF Z K e I q L (.int (I k i.toNatClampNeg) :: st)) : WF Z K (gd (inb i n) e) I pc L (.int i :: rf (zG Z) k :: st) :=
  fun x hx hx2 H locs ls hR hS hL => va_iald (D := Dg (zG Z)) (cl := vwCl) (tys := tysG (zG Z)) (cA := (zG Z).2.2.2.1 0) (n := n) (f := I k) C.x C.b C.K hR k 0 (by rw [wd_get hk.1]; simp only [cellR, hk.2]) rfl (inb_in (gd_some hx).1) d (hq ▸ kk (gd_some hx).1 x (gd_some hx).2 hx2 H locs ls hR hS hL)
theorem w_cald (C : Cx Z cc nL own) {k n : Nat} {i : Int32} (hk : isA k 1 n) (d : decode cc pc = .ok (.caload, 1)) (hq : pc + 1 = q) (kk : inb i n = true → WF Z K e I q L (.int (I k i.toNatClampNeg) :: st)) : WF Z K (gd (inb i n) e) I pc L (.int i :: rf (zG Z) k :: st) :=
  fun x hx hx2 H locs ls hR hS hL => va_cald (D := Dg (zG Z)) (cl := vwCl) (tys := tysG (zG Z)) (cA := (zG Z).2.2.2.1 1) (n := n) (f := I k) C.x C.b C.K hR k 1 (by rw [wd_get hk.1]; simp only [cellR, hk.2]) rfl (inb_in (gd_some hx).1) d (hq ▸ kk (gd_some hx).1 x (gd_some hx).2 hx2 H locs ls hR hS hL)
/-- a load out of an array of references: its elements stay where the constructors put them -/
theorem w_aald (C : Cx Z cc nL own) {k n t c0 c1 ci : Nat} {Cn : String} {i : Int32} (hk : isA k (t + 4) n) (ht : (tysG (zG Z))[t + 4]? = some ((zG Z).2.2.2.1 (t + 4), .object Cn)) (el : ∀ a, a < n → tgt k a = k + (c0 + c1 * a) ∧ isO (k + (c0 + c1 * a)) ci)
    (d : decode cc pc = .ok (.aaload, 1)) (hq : pc + 1 = q) (kk : inb i n = true → isO (k + (c0 + c1 * i.toNatClampNeg)) ci → WF Z K e I q L (rf (zG Z) (k + (c0 + c1 * i.toNatClampNeg)) :: st)) : WF Z K (gd (inb i n) e) I pc L (.int i :: rf (zG Z) k :: st) := by
  intro x hx hx2 H locs ls hR hS hL
  have hb := (gd_some hx).1
  have h1 := el _ (inb_lt hb)
  refine va_aldq (D := Dg (zG Z)) (cl := vwCl) (tys := tysG (zG Z)) (cA := (zG Z).2.2.2.1 (t + 4)) (n := n) (f := fun i => some ((zG Z).1 + tgt k i)) C.x C.b C.K hR k (t + 4) (by rw [wd_get hk.1]; simp only [cellR, hk.2]) ht (inb_in hb) d ?_
  rw [h1.1]
  exact hq ▸ kk hb h1.2 x (gd_some hx).2 hx2 H locs ls hR hS hL
theorem cell_A0 {G : Gx} {row : Nat → Int32} {k n : Nat} (h : isA k 0 n) : cellR G row k = .inl (G.2.2.2.1 0, n, .inl row) := by simp only [cellR, h.2]
theorem cell_A1 {G : Gx} {row : Nat → Int32} {k n : Nat} (h : isA k 1 n) : cellR G row k = .inl (G.2.2.2.1 1, n, .inl row) := by simp only [cellR, h.2]
theorem cell_A2 {G : Gx} {row : Nat → Int32} {k n : Nat} (h : isA k 2 n) : cellR G row k = .inl (G.2.2.2.1 2, n, .inl row) := by simp only [cellR, h.2]
theorem cell_A3 {G : Gx} {row : Nat → Int32} {k n : Nat} (h : isA k 3 n) : cellR G row k = .inl (G.2.2.2.1 3, n, .inr (.inl (fun i => (row i).toInt64))) := by simp only [cellR, h.2]
theorem w_iast (C : Cx Z cc nL own) {k n : Nat} {i v : Int32} {f : Mem → Option R} (hk : isA k 0 n) (d : decode cc pc = .ok (.iastore, 1)) (hq : pc + 1 = q) (kk : inb i n = true → ∀ I' : Mem, WF Z K (f I') I' q L st) : WF Z K (gd (inb i n) (bnd (ms I k i.toNatClampNeg v) f)) I pc L (.int v :: .int i :: rf (zG Z) k :: st) :=
  fun x hx hx2 H locs ls hR hS hL => va_iast (D := Dg (zG Z)) (cl := vwCl) (tys := tysG (zG Z)) (cA := (zG Z).2.2.2.1 0) (n := n) (f := I k) C.x C.b C.K hR wd_apart hS k 0 (by rw [wd_get hk.1, cell_A0 hk]) rfl (inb_in (gd_some hx).1) d
    (fun H1 locs1 hP1 _ hS1 => hq ▸ kk (gd_some hx).1 (ms I k i.toNatClampNeg v) x (gd_some hx).2 hx2 H1 locs1 ls (by
      rw [wd_set (I' := ms I k i.toNatClampNeg v) hk.1 (by rw [cell_A0 hk, ms_row]) (fun a ha => ms_ne ha)] at hP1
      exact hP1) hS1 hL)
theorem w_cast (C : Cx Z cc nL own) {k n : Nat} {i v : Int32} {f : Mem → Option R} (hk : isA k 1 n) (d : decode cc pc = .ok (.castore, 1)) (hq : pc + 1 = q) (kk : inb i n = true → ∀ I' : Mem, WF Z K (f I') I' q L st) : WF Z K (gd (inb i n) (gd (okc v) (bnd (ms I k i.toNatClampNeg v) f))) I pc L (.int v :: .int i :: rf (zG Z) k :: st) :=
  fun x hx hx2 H locs ls hR hS hL => va_cast (D := Dg (zG Z)) (cl := vwCl) (tys := tysG (zG Z)) (cA := (zG Z).2.2.2.1 1) (n := n) (f := I k) C.x C.b C.K hR wd_apart hS k 1 (by rw [wd_get hk.1, cell_A1 hk]) rfl (inb_in (gd_some hx).1) d
    (fun H1 locs1 hP1 _ hS1 => hq ▸ kk (gd_some hx).1 (ms I k i.toNatClampNeg v) x (gd_some (gd_some hx).2).2 hx2 H1 locs1 ls (by
      rw [okc_v (gd_some (gd_some hx).2).1, wd_set (I' := ms I k i.toNatClampNeg v) hk.1 (by rw [cell_A1 hk, ms_row]) (fun a ha => ms_ne ha)] at hP1
      exact hP1) hS1 hL)
theorem w_alen (C : Cx Z cc nL own) {k n t : Nat} {ty : FieldType} {v : Int32} (hk : isA k t n) (hty : (tysG (zG Z))[t]? = some ((zG Z).2.2.2.1 t, ty)) (ht : t < 8) (hv : Int32.ofNat n = v) (d : decode cc pc = .ok (.arraylength, 1)) (hq : pc + 1 = q) (kk : WF Z K e I q L (.int v :: st)) : WF Z K e I pc L (rf (zG Z) k :: st) := by
  intro x hx hx2 H locs ls hR hS hL
  have hcell : ∃ y : vp_A, cellR (zG Z) (I k) k = .inl ((zG Z).2.2.2.1 t, y) ∧ y.1 = n := by
    rcases (show t = 0 ∨ t = 1 ∨ t = 2 ∨ t = 3 ∨ t = 4 ∨ t = 5 ∨ t = 6 ∨ t = 7 by omega) with rfl | rfl | rfl | rfl | rfl | rfl | rfl | rfl <;> exact ⟨_, by simp only [cellR, hk.2]; rfl, rfl⟩
  obtain ⟨y, h1, h2⟩ := hcell
  exact va_alen (D := Dg (zG Z)) (cl := vwCl) (tys := tysG (zG Z)) C.x C.b C.K hR k t (by rw [wd_get hk.1, h1]) hty (v := v) (by rw [h2]; exact hv) d (hq ▸ kk x hx hx2 H locs ls hR hS hL)
theorem w_gd {b : Bool} (kk : b = true → WF Z K e I pc L st) : WF Z K (gd b e) I pc L st := fun x hx => kk (gd_some hx).1 x (gd_some hx).2
end HR
section XR
variable {Z : Zx} {cc : ByteArray} {nL : Nat} {own : String} {R : Type} {K : R → Prop} {e : Option R} {I : Mem} {pc q : Nat} {L : List (Option Value)} {st : List Value}
theorem w_none : WF Z K none I pc L st := fun x hx => nomatch hx
theorem w_iushr (C : Cx Z cc nL own) {x y : Int32} (d : decode cc pc = .ok (.iushr, 1)) (hq : pc + 1 = q) (k : WF Z K e I q L (.int (x.toUInt32 >>> (y.toUInt32 &&& Int32.toUInt32 31)).toInt32 :: st)) : WF Z K e I pc L (.int y :: .int x :: st) :=
  fun r hr hk H locs ls hR hS hL => lv_iushr C.x C.b d rfl (hq ▸ k r hr hk H locs ls hR hS hL)
theorem w_ldc (C : Cx Z cc nL own) {index : Nat} {v : Int32} (hc : Cond.constant own index v ∈ LT) (d : decode cc pc = .ok (.ldc index, 2)) (hq : pc + 2 = q) (k : WF Z K e I q L (.int v :: st)) : WF Z K e I pc L st :=
  fun r hr hk H locs ls hR hS hL => lv_ldc C.x C.b C.ow (C.ts _ hc) d (hq ▸ k r hr hk H locs ls hR hS hL)
theorem w_aloadB (C : Cx Z cc nL own) {n : Fin 4} {b : Nat} (d : decode cc pc = .ok (.aload_n n, 1)) (hl : L[(n : Nat)]? = some (some (.ref b))) (hq : pc + 1 = q) (k : WF Z K e I q L (.ref b :: st)) : WF Z K e I pc L st :=
  fun x hx hk H locs ls hR hS hL => lv_aload_n C.x C.b d rfl (hL.get hl) (hq ▸ k x hx hk H locs ls hR hS hL)
theorem w_sldX (C : Cx Z cc nL own) {Xs : Nat × (Nat → Int32)} (hX : Xs = sG (zG Z)) {i : Int32} (d : decode cc pc = .ok (.iaload, 1)) (hq : pc + 1 = q) (kk : inb i Xs.1 = true → WF Z K e I q L (.int (Xs.2 i.toNatClampNeg) :: st)) : WF Z K (gd (inb i Xs.1) e) I pc L (.int i :: .ref (Gb (zG Z)) :: st) := by
  intro x hx hx2 H locs ls hR hS hL
  subst hX
  obtain ⟨h1, h2, h3, h4⟩ := C.kk
  exact va_sld C.x C.b h4 (va_X_lt h4) (fun q => Nat.not_le.mpr h3 q.1) hS (inb_in (gd_some hx).1) d (hq ▸ kk (gd_some hx).1 x (gd_some hx).2 hx2 H locs ls hR hS hL)
theorem w_slenX (C : Cx Z cc nL own) {Xs : Nat × (Nat → Int32)} (hX : Xs = sG (zG Z)) (d : decode cc pc = .ok (.arraylength, 1)) (hq : pc + 1 = q) (kk : WF Z K e I q L (.int (Int32.ofNat Xs.1) :: st)) : WF Z K e I pc L (.ref (Gb (zG Z)) :: st) := by
  intro x hx hx2 H locs ls hR hS hL
  subst hX
  obtain ⟨h1, h2, h3, h4⟩ := C.kk
  exact va_slen C.x C.b h4 (va_X_lt h4) (fun q => Nat.not_le.mpr h3 q.1) hS d (hq ▸ kk x hx hx2 H locs ls hR hS hL)
end XR
