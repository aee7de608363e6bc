/-! the law's entry -/
theorem fl_strs : strs.all (fun q => decide (Cond.exactly (.string q.1 q.2.1) "java/lang/String" ∈ flatC (Jvm.Cond.and given_1 narrow_1))) = true := by decide +kernel
theorem tb_strs : strs.all (fun q => decide (Cond.stringRef q.1 q.2.1 q.2.2 ∈ lw_tbl)) = true := by decide +kernel
theorem fl_nc : (List.range 4).all (fun i => (List.range 4).all fun j => decide (i = j) || decide (Cond.not (.castable (exN i) (exN j)) ∈ flatC (Jvm.Cond.and given_1 narrow_1))) = true := by decide +kernel
theorem fl_s1 : Cond.isRef (.static Bundle.tN "UNASSIGNED_STACK" Bundle.steD) ∈ flatC (Jvm.Cond.and given_1 narrow_1) := by decide +kernel
theorem fl_s2 : Cond.isRef (.static Bundle.tN "SUPPRESSED_SENTINEL" Bundle.listD) ∈ flatC (Jvm.Cond.and given_1 narrow_1) := by decide +kernel
theorem tb_s1 : Cond.laysStatic Bundle.tN "UNASSIGNED_STACK" Bundle.steD ∈ lw_tbl := by decide +kernel
theorem tb_s2 : Cond.laysStatic Bundle.tN "SUPPRESSED_SENTINEL" Bundle.listD ∈ lw_tbl := by decide +kernel
theorem tb_s3 : Cond.initialized Bundle.tN ∈ lw_tbl := by decide +kernel
theorem known1 {s : State} {args : Array Value} (hts : ∀ w ∈ LT, w.before args s = true) : ∀ c : Nat, ∃ D : ClassId × (Nat → Nat), ∀ q : vw_C, vwCl[c]? = some q → u_Kn s q.1 q.2.1 q.2.2 D.1 D.2 := by
  have go : ∀ (c : Nat) (Cn : String) (T : u_T) (N n : Nat), vwCl[c]? = some (Cn, T, N) → (∀ w ∈ u_ws Cn T N, w ∈ LT) → Cond.instantiable Cn n ∈ LT → ∃ D : ClassId × (Nat → Nat), ∀ q : vw_C, vwCl[c]? = some q → u_Kn s q.1 q.2.1 q.2.2 D.1 D.2 := by
    intro c Cn T N n h1 h2 h3
    obtain ⟨cC, iS, h⟩ := u_known hts h2 (hts _ h3)
    refine ⟨(cC, iS), fun q hq => ?_⟩
    have e := Option.some.inj (hq.symm.trans h1)
    subst e
    exact h
  intro c
  match c with
  | 0 => exact go 0 _ _ _ _ rfl inT0 kn_X0
  | 1 => exact go 1 _ _ _ _ rfl inT1 kn_X1
  | 2 => exact go 2 _ _ _ _ rfl inT2 kn_X2
  | 3 => exact go 3 _ _ _ _ rfl inT3 kn_X3
  | 4 => exact go 4 _ _ _ _ rfl inT4 kn_X4
  | 5 => exact go 5 _ _ _ _ rfl inT5 kn_X5
  | 6 => exact go 6 _ _ _ _ rfl inT6 kn_X6
  | 7 => exact go 7 _ _ _ _ rfl inT7 kn_X7
  | 8 => exact go 8 _ _ _ _ rfl inT8 kn_X8
  | 9 => exact go 9 _ _ _ _ rfl inT9 kn_X9
  | 10 => exact go 10 _ _ _ _ rfl inT10 kn_X10
  | 11 => exact go 11 _ _ _ _ rfl inT11 kn_X11
  | 12 => exact go 12 _ _ _ _ rfl inT12 kn_X12
  | n + 13 => exact ⟨(0, fun _ => 0), fun q hq => nomatch hq⟩
theorem known2 {s : State} {args : Array Value} (hts : ∀ w ∈ LT, w.before args s = true) : ∀ t : Nat, ∃ cA : ClassId, t < arT.length → ArrOfT s cA (arT.getD t .int) ∧ va_RA s cA (arT.getD t .int) := by
  have prim : ∀ ty : FieldType, (∀ U cA, U.vm.findClass ("[" ++ ty.toString) = some cA → va_RA U cA ty) → Cond.arrayClass ty ∈ LT → ∃ cA : ClassId, ArrOfT s cA ty ∧ va_RA s cA ty := by
    intro ty h1 h2
    obtain ⟨cA, k, comp, h3, h4, h5⟩ := Cond.arrayClass_spec (hts _ h2)
    exact ⟨cA, fun n z => ⟨fun k h => (by cases h), k, h4, comp, h5⟩, h1 _ _ h3⟩
  have refs : ∀ Cn : String, Cond.arrayOver (.object Cn) ∈ LT → ∃ cA : ClassId, ArrOfT s cA (.object Cn) ∧ va_RA s cA (.object Cn) := by
    intro Cn h2
    obtain ⟨comp, cA, k, h3, h4, h5, h6, h7⟩ := Cond.arrayOver_spec (hts _ h2)
    exact ⟨cA, fun n z => ⟨fun k h => (by cases h), k, h5, comp, h6⟩, k, comp, h5, h6, h3, h7⟩
  have lift : ∀ (t : Nat) (ty : FieldType), arT.getD t .int = ty → (∃ cA : ClassId, ArrOfT s cA ty ∧ va_RA s cA ty) → ∃ cA : ClassId, t < arT.length → ArrOfT s cA (arT.getD t .int) ∧ va_RA s cA (arT.getD t .int) := by
    intro t ty h1 ⟨cA, h2⟩
    rw [h1]
    exact ⟨cA, fun _ => h2⟩
  intro t
  match t with
  | 0 => exact lift 0 _ rfl (prim .int (fun _ _ h => h) ka_0)
  | 1 => exact lift 1 _ rfl (prim .char (fun _ _ h => h) ka_1)
  | 2 => exact lift 2 _ rfl (prim .boolean (fun _ _ h => h) ka_2)
  | 3 => exact lift 3 _ rfl (prim .long (fun _ _ h => h) ka_3)
  | 4 => exact lift 4 _ rfl (refs _ ko_X0)
  | 5 => exact lift 5 _ rfl (refs _ ko_X2)
  | 6 => exact lift 6 _ rfl (refs _ ko_X6)
  | 7 => exact lift 7 _ rfl (refs _ ko_X9)
  | n + 8 => exact ⟨0, fun h => absurd h (by simp [arT])⟩
theorem KK.start {s : State} {b : Nat} (hts : ∀ w ∈ lw_tbl, w.before #[Value.ref b] s = true) (hgv : (Jvm.Cond.and given_1 narrow_1).before #[Value.ref b] s = true) : ∃ G : Gx, G.1 = s.heap.size ∧ KK G s := by
  have hTB : TB s := TB.ofAll hts
  have h1 := known1 (TB.use hTB #[])
  have h2 := known2 (TB.use hTB #[])
  have hf := flat_of_before _ hgv
  refine ⟨(s.heap.size, fun c => (h1 c).choose.1, fun c => (h1 c).choose.2, fun t => (h2 t).choose), rfl, ⟨fun c q hq => (h1 c).choose_spec q hq, fun k q hq => ?_⟩, hTB, ?_, ?_, fun q hq => ?_⟩
  · have lk := (List.getElem?_eq_some_iff.mp hq).1
    simp only [tysG, List.length_map, List.length_range] at lk
    have e : q = ((h2 k).choose, arT.getD k .int) := by
      have := hq
      simp only [tysG, List.getElem?_map, List.getElem?_range lk, Option.map_some] at this
      exact (Option.some.inj this).symm
    subst e
    exact (h2 k).choose_spec lk
  · exact vx_Zqof (hts _ tb_s1) (hts _ tb_s3) (hf _ fl_s1) (fun a h => Nat.not_le.mpr h)
  · exact vx_Zqof (hts _ tb_s2) (hts _ tb_s3) (hf _ fl_s2) (fun a h => Nat.not_le.mpr h)
  · have e1 := of_decide_eq_true (List.all_eq_true.mp fl_strs q hq)
    have e2 := of_decide_eq_true (List.all_eq_true.mp tb_strs q hq)
    obtain ⟨a, _, _, _, he, -⟩ := Cond.exactly_spec (hf _ e1)
    exact ⟨a, vk_R.of (hts _ e2) he⟩
theorem NCs.start {s : State} {b : Nat} (hgv : (Jvm.Cond.and given_1 narrow_1).before #[Value.ref b] s = true) : NCs s := by
  intro i j hi hj hij
  have h1 := List.all_eq_true.mp (List.all_eq_true.mp fl_nc i (List.mem_range.mpr hi)) j (List.mem_range.mpr hj)
  rcases Bool.or_eq_true_iff.mp h1 with h | h
  · exact absurd (of_decide_eq_true h) hij
  · exact va_Nc.of (flat_of_before _ hgv _ (of_decide_eq_true h))
set_option maxRecDepth 100000 in
theorem machine {p : Program} {e : Env} {s : State} {m : MethodId} {below : List Frame} {meth : Method} {c : Code} (l : Launch) (hflags : l.flags = flags0) {b L : Nat} {xs : Nat → Int32} (hL : L ≤ 2048) (C0 : lw_At p s m meth c b L xs) {P : Nat → Mem → Prop} (hP : StepsOK L xs P) (hP0 : P 0 I0) : W p l e room_1 s m #[Value.ref b] below meth c s.heap [] 0 0 (lw_Z below #[Value.ref b] s) (entryFrame m ([Value.ref b] : List Value).toArray 7) := by
  obtain ⟨hx, hb, hret, hml, hown, hts, hX, hbl, hlocks, hgv⟩ := C0
  obtain ⟨G, hG, hKK⟩ := KK.start hts hgv
  have hNC : NCs s := NCs.start hgv
  have hst : l.stackTraces = false := by
    show (!(l.flags.contains noTraceFlag)) = false
    rw [hflags]
    decide +kernel
  rw [lg_entry_eq]
  generalize hZ : ((((p, l, e, room_1, s, m, #[Value.ref b], below, meth, c) : Fr), G, 0, 0, lw_Z below #[Value.ref b] s) : Zx) = Z
  have C : Cx Z code 7 RL := by subst hZ; exact ⟨hx, hb, hml, hown, hlocks, hKK, Nat.zero_le _, Nat.zero_le _⟩
  have N : CN Z 601024 7293034 := by subst hZ; exact ⟨rfl, rfl, by show G.1 ≤ s.heap.size; rw [hG]; exact Nat.le_refl _⟩
  have hR : RM Z 13 472 := by subst hZ; exact ⟨rfl, rfl⟩
  have hLX : LX Z b L xs := by subst hZ; exact ⟨hX, hbl, fun h => absurd h (by show ¬ G.1 ≤ b; rw [hG]; omega)⟩
  have hEnd : ∀ (c k : Nat) (I : Mem) (L : List (Option Value)), c ≤ 601024 → k ≤ 7293034 → WM (Zb Z c k) I 1417 L [] := by
    subst hZ
    intro c k I L h1 h2 H locs ls hRp hS hLs
    refine lv_iconst (v := 1) hx hb dL_law_1417 (by decide) ?_
    refine W.widen (k := 601024) (n := 7293034) h1 h2 (va_forget (fun q hq => ?_) (lw_ret hx hb hret hlocks dL_law_1418))
    have := hS.2.2 q hq
    rw [← hG]
    exact this
  have hb2 := law_built
  cases hil : i_law [] with
  | none => rw [hil] at hb2; cases hb2
  | some y =>
    obtain ⟨A, k1, k2, k3⟩ := y
    rw [hil] at hb2
    obtain ⟨hchk, hk⟩ := Bool.and_eq_true_iff.mp hb2
    obtain ⟨rfl, rfl, rfl, hsz⟩ := of_decide_eq_true hk
    have hlen : A.length = 231 := of_decide_eq_true (Bool.and_eq_true_iff.mp hchk).1
    have hloop := law_loop hL C hR (by subst hZ; exact hst) (by subst hZ; exact hNC) hLX N.1 N.2.1 hP hEnd (L / 4) 0 I0 (by omega) (by omega) hP0
    have hW := i_law_ok (K := fun y => y = (A, 0, 196, 230)) C N hR b [] (fun A' k1 k2 k3 h => by
      cases h
      intro H locs ls hRp hS hLs
      rw [Nat.sub_zero, Nat.sub_zero]
      exact WM.widen (Z := Zb Z A.length (szA A)) (c := 1000 + 4 * 0) (n := 30000 + 24 * 0) (by show A.length ≤ _; omega) (by show szA A ≤ _; omega) hloop H locs ls (rep_of hRp hchk) hS hLs) _ hil rfl s.heap [] _ (by subst hZ; exact ⟨by rw [hG]; rfl, fun k q hq => nomatch hq⟩) (by subst hZ; exact va_S.rf) (hasL.entry [Value.ref b] 7 (fun v hv => by rw [List.mem_singleton.mp hv]; rfl) (Nat.le_of_ble_eq_true rfl))
    subst hZ
    exact hW
