/-! the law's entry -/
theorem known1 {s : State} {args : Array Value} (hts : ∀ w ∈ LT, w.before args s = true) : ∀ c : Nat, ∃ D : ClassId × (Nat → Nat), ∀ q : vw_C, vwCl[c]? = some q → u_Kn s q.1 q.2.1 q.2.2 D.1 D.2 := by
  have go : ∀ (c : Nat) (Cn : String) (T : u_T) (N n : Nat), vwCl[c]? = some (Cn, T, N) → (∀ w ∈ u_ws Cn T N, w ∈ LT) → Cond.instantiable Cn n ∈ LT → ∃ D : ClassId × (Nat → Nat), ∀ q : vw_C, vwCl[c]? = some q → u_Kn s q.1 q.2.1 q.2.2 D.1 D.2 := by
    intro c Cn T N n h1 h2 h3
    obtain ⟨cC, iS, h⟩ := u_known hts h2 (hts _ h3)
    refine ⟨(cC, iS), fun q hq => ?_⟩
    have e := Option.some.inj (hq.symm.trans h1)
    subst e
    exact h
  intro c
  match c with
  | 0 => exact go 0 _ _ _ _ rfl inT0 kn_X0
  | 1 => exact go 1 _ _ _ _ rfl inT1 kn_X1
  | 2 => exact go 2 _ _ _ _ rfl inT2 kn_X2
  | 3 => exact go 3 _ _ _ _ rfl inT3 kn_X3
  | 4 => exact go 4 _ _ _ _ rfl inT4 kn_X4
  | 5 => exact go 5 _ _ _ _ rfl inT5 kn_X5
  | 6 => exact go 6 _ _ _ _ rfl inT6 kn_X6
  | 7 => exact go 7 _ _ _ _ rfl inT7 kn_X7
  | 8 => exact go 8 _ _ _ _ rfl inT8 kn_X8
  | 9 => exact go 9 _ _ _ _ rfl inT9 kn_X9
  | 10 => exact go 10 _ _ _ _ rfl inT10 kn_X10
  | 11 => exact go 11 _ _ _ _ rfl inT11 kn_X11
  | n + 12 => exact ⟨(0, fun _ => 0), fun q hq => nomatch hq⟩
theorem known2 {s : State} {args : Array Value} (hts : ∀ w ∈ LT, w.before args s = true) : ∀ t : Nat, ∃ cA : ClassId, t < arT.length → ArrOfT s cA (arT.getD t .int) ∧ va_RA s cA (arT.getD t .int) := by
  have prim : ∀ ty : FieldType, (∀ U cA, U.vm.findClass ("[" ++ ty.toString) = some cA → va_RA U cA ty) → Cond.arrayClass ty ∈ LT → ∃ cA : ClassId, ArrOfT s cA ty ∧ va_RA s cA ty := by
    intro ty h1 h2
    obtain ⟨cA, k, comp, h3, h4, h5⟩ := Cond.arrayClass_spec (hts _ h2)
    exact ⟨cA, fun n z => ⟨fun k h => (by cases h), k, h4, comp, h5⟩, h1 _ _ h3⟩
  have refs : ∀ Cn : String, Cond.arrayOver (.object Cn) ∈ LT → ∃ cA : ClassId, ArrOfT s cA (.object Cn) ∧ va_RA s cA (.object Cn) := by
    intro Cn h2
    obtain ⟨comp, cA, k, h3, h4, h5, h6, h7⟩ := Cond.arrayOver_spec (hts _ h2)
    exact ⟨cA, fun n z => ⟨fun k h => (by cases h), k, h5, comp, h6⟩, k, comp, h5, h6, h3, h7⟩
  have lift : ∀ (t : Nat) (ty : FieldType), arT.getD t .int = ty → (∃ cA : ClassId, ArrOfT s cA ty ∧ va_RA s cA ty) → ∃ cA : ClassId, t < arT.length → ArrOfT s cA (arT.getD t .int) ∧ va_RA s cA (arT.getD t .int) := by
    intro t ty h1 ⟨cA, h2⟩
    rw [h1]
    exact ⟨cA, fun _ => h2⟩
  intro t
  match t with
  | 0 => exact lift 0 _ rfl (prim .int (fun _ _ h => h) ka_0)
  | 1 => exact lift 1 _ rfl (prim .char (fun _ _ h => h) ka_1)
  | 2 => exact lift 2 _ rfl (prim .int (fun _ _ h => h) ka_0)
  | 3 => exact lift 3 _ rfl (prim .char (fun _ _ h => h) ka_1)
  | 4 => exact lift 4 _ rfl (refs _ ko_X0)
  | 5 => exact lift 5 _ rfl (refs _ ko_X2)
  | 6 => exact lift 6 _ rfl (refs _ ko_X6)
  | 7 => exact lift 7 _ rfl (refs _ ko_X9)
  | n + 8 => exact ⟨0, fun h => absurd h (by simp [arT])⟩
theorem KK.start {s : State} {b L : Nat} {xs : Nat → Int32} (hts : ∀ w ∈ lw_tbl, w.before #[Value.ref b] s = true) (hX : va_X b L xs s s.heap) : ∃ G : Gx, G.1 = s.heap.size ∧ Gn G = 1 ∧ Gb G = b ∧ sG G = (L, xs) ∧ KK G s := by
  have hTB : TB s := TB.ofAll hts
  have h1 := known1 (TB.use hTB #[])
  have h2 := known2 (TB.use hTB #[])
  refine ⟨(s.heap.size, fun c => (h1 c).choose.1, fun c => (h1 c).choose.2, fun t => (h2 t).choose, 1, b, L, xs), rfl, rfl, rfl, rfl, ⟨fun c q hq => (h1 c).choose_spec q hq, fun k q hq => ?_⟩, hTB, va_X_lt hX, hX⟩
  have lk := (List.getElem?_eq_some_iff.mp hq).1
  simp only [tysG, List.length_map, List.length_range] at lk
  have e : q = ((h2 k).choose, arT.getD k .int) := by
    have := hq
    simp only [tysG, List.getElem?_map, List.getElem?_range lk, Option.map_some] at this
    exact (Option.some.inj this).symm
  subst e
  exact (h2 k).choose_spec lk
set_option maxRecDepth 100000 in
theorem machine {p : Program} {e : Env} {s : State} {m : MethodId} {below : List Frame} {meth : Method} {c : Code} (l : Launch) (hflags : l.flags = flags0) {b L : Nat} {xs : Nat → Int32} (C0 : lw_At p s m meth c b L xs) {y : Int32 × Mem2} (hy : m_L_law (L, xs) (I0, I0) = some y) (hy1 : y.1 = 1) : W p l e room_1 s m #[Value.ref b] below meth c s.heap [] 0 0 (lw_Z below #[Value.ref b] s) (entryFrame m ([Value.ref b] : List Value).toArray 8) := by
  obtain ⟨hx, hb, hret, hml, hown, hts, hX, hbl, hlocks, hgv⟩ := C0
  obtain ⟨G, hG, hn1, hGb, hsG, hKK⟩ := KK.start hts hX
  rw [lg_entry_eq]
  generalize hZ : ((((p, l, e, room_1, s, m, #[Value.ref b], below, meth, c) : Fr), G, 0, 0, lw_Z below #[Value.ref b] s) : Zx) = Z
  have C : Cx Z code 8 RL := by subst hZ; exact ⟨hx, hb, hml, hown, hlocks, hKK, Nat.zero_le _, Nat.zero_le _⟩
  have N : CN Z 600130 7301080 := by subst hZ; exact ⟨rfl, rfl, by show G.1 ≤ s.heap.size; rw [hG]; exact Nat.le_refl _, by show 0 < Gn G; rw [hn1]; decide⟩
  have hR : RM Z 13 480 := by subst hZ; exact ⟨rfl, rfl⟩
  have hn : Gn (zG Z) = 1 := by subst hZ; exact hn1
  have hXs : ((L, xs) : Nat × (Nat → Int32)) = sG (zG Z) := by subst hZ; exact hsG.symm
  have hbZ : b = Gb (zG Z) := by subst hZ; exact hGb.symm
  have hEnd : ∀ (z : Int32) (J : Mem2), z = 1 → RetI Z code .boolean z (mg2 J) := by
    subst hZ
    intro z J hz c k pc L h1 h2 d _ H locs ls hRp hS hLs
    subst hz
    refine W.widen (k := 600130) (n := 7301080) h1 h2 (va_forget (fun q hq => ?_) (lw_ret hx hb hret hlocks d))
    have := hS.2.2 q hq
    rw [← hG]
    exact this.1
  have hb2 := obj_built
  cases hil : i_X11 0 [(0, 11, List.replicate 13 0)] with
  | none => rw [hil] at hb2; cases hb2
  | some A =>
    rw [hil] at hb2
    obtain ⟨hchk, hk⟩ := Bool.and_eq_true_iff.mp hb2
    have hsz : szA A = 3743 := of_decide_eq_true hk
    have hlen : A.length = NN := of_decide_eq_true (Bool.and_eq_true_iff.mp hchk).1
    have C1 : Cx (Zb Z 1000 30000) code 8 RL := by subst hZ; exact ⟨hx, hb, hml, hown, hlocks, hKK, by show 1000 ≤ 600130; decide, by show 30000 ≤ 7301080; decide⟩
    have hlaw : WM (Zb Z 1000 30000) (mg2 (I0, I0)) 16 [some (.ref (Gb (zG Z))), some (rf (zG Z) 0), some (rf (zG Z) 196), none, none, none, none, none] [] := m_L_law_ok (Z := Zb Z 1000 30000) (K := fun z => z.1 = 1) C1 hR hn (L, xs) hXs (I0, I0) (fun z hz => hEnd z.1 z.2 hz) y hy hy1
    rw [← hbZ] at hlaw
    have hW := i_law_ok (K := fun y => y = (A, 0)) C N hR b [] (fun A' k1 h => by
      cases h
      exact second C N hR hn hil hchk hsz hlaw) _ (law_A hil hlen hsz) rfl s.heap [] _ (by subst hZ; exact ⟨by rw [hG]; rfl, fun k q hq => nomatch hq⟩) (by subst hZ; exact va_S.rf) (hasL.entry [Value.ref b] 8 (fun v hv => by rw [List.mem_singleton.mp hv]; rfl) (Nat.le_of_ble_eq_true rfl))
    subst hZ
    exact hW
