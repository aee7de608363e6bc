def caseB (f : Option (Int32 × Mem)) (g : Mem → Option Mem) : Option (Mem ⊕ Unit) :=
  Option.bind f fun r1 => Option.bind (g r1.2) fun I2 => Option.bind (m_X12_thrown 196 I2) fun r3 => if r3 = r1.1 then (some (.inl I2)) else (some (.inr ()))
def wrU (hv : Nat → Option Int32) (F : Option ((Unit ⊕ Nat) × Mem)) : Option (Int32 × Mem) :=
  obx F (fun k I9 => (hv k).map (fun c => (c, I9))) (fun _ I2 => some (0, I2))
theorem opB_ok {hv : Nat → Option Int32} {F : Option ((Unit ⊕ Nat) × Mem)} {G : Mem → Option Mem} {I1 I2 : Mem} (h1 : F = some (.inl (), I1)) (h2 : G I1 = some I2) (h3 : I2 196 48 = 0) (h5 : Inv I2) : OKc (caseB (wrU hv F) G) := by
  refine ⟨I2, ?_, h5⟩
  have e : wrU hv F = some (0, I1) := by rw [h1]; rfl
  rw [e]
  unfold caseB
  simp only [Option.bind_some, h2, m_X12_thrown, h3, if_true]
theorem opB_ex {hv : Nat → Option Int32} {F : Option ((Unit ⊕ Nat) × Mem)} {G : Mem → Option Mem} {c : Int32} {k : Nat} {I1 I2 : Mem} (h1 : F = some (.inr k, I1)) (hk : hv k = some c) (h2 : G I1 = some I2) (h3 : I2 196 48 = c) (h5 : Inv I2) : OKc (caseB (wrU hv F) G) := by
  refine ⟨I2, ?_, h5⟩
  have e : wrU hv F = some (c, I1) := by rw [h1]; show (hv k).map _ = _; rw [hk]; rfl
  rw [e]
  unfold caseB
  simp only [Option.bind_some, h2, m_X12_thrown, h3, if_true]
def loopT (T : Nat → Nat → Nat) (ni ne l m : Nat) : Nat → Nat → Nat := up2 (up2 (up2 (up2 (up2 T 3 ne 1) 4 ne ni) 5 ne ni) 6 ne l) 7 ne m
theorem SchF.ne_le {T : Nat → Nat → Nat} {ni ne : Nat} (hF : SchF T ni ne false) : ne ≤ ni := by
  obtain ⟨f1, f2, f3, f4, f5, f6, f7⟩ := hF
  rcases Nat.eq_zero_or_pos ne with h0 | h0
  · omega
  · have q := f4 (ne - 1) (by omega)
    have q2 := (f5 h0).2
    have q3 := q.2.2.2.2.2.2.2.2.2.2 (Or.inl rfl)
    omega
theorem loopT_F {T : Nat → Nat → Nat} {ni ne l m : Nat} (hF : SchF T ni ne false) (hl : l ≤ 9) (hm : 1 ≤ m ∧ m ≤ 9) (hlm : l ≤ m) : SchF (loopT T ni ne l m) ni (ne + 1) true := by
  have hne := hF.ne_le
  obtain ⟨f1, f2, f3, f4, f5, f6, f7⟩ := hF
  refine ⟨f1, by omega, fun i hi => ?_, fun e he => ?_, fun h => ?_, fun h => by simp at h, fun _ => ?_⟩
  · have := f3 i hi
    simp [loopT, up2]
    omega
  · by_cases x3 : e = ne
    · subst x3
      simp [loopT, up2]
      omega
    · have k := f4 e (by omega)
      have v1 : ∀ i, loopT T ni ne l m 1 i = T 1 i := fun i => by simp [loopT, up2]
      have v3 : loopT T ni ne l m 3 e = T 3 e := by simp [loopT, up2, x3]
      have v4 : loopT T ni ne l m 4 e = T 4 e := by simp [loopT, up2, x3]
      have v5 : loopT T ni ne l m 5 e = T 5 e := by simp [loopT, up2, x3]
      have v6 : loopT T ni ne l m 6 e = T 6 e := by simp [loopT, up2, x3]
      have v7 : loopT T ni ne l m 7 e = T 7 e := by simp [loopT, up2, x3]
      have v8 : loopT T ni ne l m 4 (e + 1) = T 5 e := by
        by_cases x4 : e + 1 = ne
        · have := f5 (by omega)
          simp [loopT, up2, x4]
          rw [← this.2, ← x4]
          rfl
        · have := k.2.2.2.2.2.2.2.2.2.1 (by omega)
          simp [loopT, up2, x4, this]
      rw [v1, v3, v4, v5, v6, v7]
      exact ⟨k.1, k.2.1, k.2.2.1, k.2.2.2.1, k.2.2.2.2.1, k.2.2.2.2.2.1, k.2.2.2.2.2.2.1, k.2.2.2.2.2.2.2.1, k.2.2.2.2.2.2.2.2.1, fun _ => v8, fun _ => k.2.2.2.2.2.2.2.2.2.2 (Or.inl rfl)⟩
  · by_cases x3 : ne = 0
    · subst x3
      have := f6 rfl
      simp [loopT, up2]
      omega
    · have := (f5 (by omega)).1
      simp [loopT, up2, Ne.symm x3, this]
  · simp [loopT, up2]
theorem op_openLoop {I : Mem} (hI : Inv I) (p2 p3 : Int32) : OKc (caseB (wrU hv_openLoop (m_X11_openLoop 0 p2 p3 I)) (fun I => m_X12_openLoop 196 p2 p3 I)) := by
  obtain ⟨T, ni, ne, op, hC, hM, hF⟩ := hI.1
  have bad1 : (m_X11_openLoop 0 p2 p3 I = some (.inr 0, I)) → (m_X12_openLoop 196 p2 p3 I = some (ms I 196 48 1)) → OKc (caseB (wrU hv_openLoop (m_X11_openLoop 0 p2 p3 I)) (fun I => m_X12_openLoop 196 p2 p3 I)) :=
    fun h1 h2 => opB_ex (c := 1) h1 rfl h2 (ms_s rfl rfl) hI.thr
  by_cases c5 : p2 < 0
  · exact bad1 (by simp [m_X11_openLoop, m_X11_areTimes, c5]) (by simp [m_X12_openLoop, m_X12_in, m_X12_openLoop_j29, m_X12_openLoop_j30, m_X12_openLoop_j52, m_X12_isFine, bnd, c5])
  by_cases c6 : 9 < p2
  · exact bad1 (by simp [m_X11_openLoop, m_X11_areTimes, c5, c6]) (by simp [m_X12_openLoop, m_X12_in, m_X12_openLoop_j29, m_X12_openLoop_j30, m_X12_openLoop_j52, m_X12_isFine, bnd, c5, c6])
  by_cases c7 : p3 < 1
  · exact bad1 (by simp [m_X11_openLoop, m_X11_areTimes, c5, c6, c7]) (by simp [m_X12_openLoop, m_X12_in, m_X12_openLoop_j29, m_X12_openLoop_j30, m_X12_openLoop_j52, m_X12_isFine, bnd, c5, c6, c7])
  by_cases c8 : 9 < p3
  · exact bad1 (by simp [m_X11_openLoop, m_X11_areTimes, c5, c6, c7, c8]) (by simp [m_X12_openLoop, m_X12_in, m_X12_openLoop_j29, m_X12_openLoop_j30, m_X12_openLoop_j52, m_X12_isFine, bnd, c5, c6, c7, c8])
  by_cases c9 : p3 < p2
  · exact bad1 (by simp [m_X11_openLoop, m_X11_areTimes, c5, c6, c7, c8, c9]) (by simp [m_X12_openLoop, m_X12_in, m_X12_openLoop_j29, m_X12_openLoop_j30, m_X12_openLoop_j52, m_X12_isFine, bnd, c5, c6, c7, c8, c9])
  obtain ⟨l, l1, l2, rfl⟩ := rng (a := 0) (b := 9) rfl rfl (by omega) c5 c6 (by omega)
  obtain ⟨m, m1, m2, rfl⟩ := rng (a := 1) (b := 9) rfl rfl (by omega) c7 c8 (by omega)
  have hlm : l ≤ m := Nat.not_lt.mp fun h => c9 (nI_lt h (by omega))
  have hC3 := hC.2.2.1
  have hM3 := hM.2.2.1
  cases op with
  | true =>
    have g1 : I 1 6 = 1 := hC3
    have g2 : I 196 11 = 1 := hM3
    refine opB_ex (c := 2) (k := 1) (I1 := I) (I2 := ms I 196 48 2) (by simp [m_X11_openLoop, m_X11_areTimes, c5, c6, c7, c8, c9, m_X8_isLoopOpen, g1, okz, gd_t]) rfl (by simp [m_X12_openLoop, m_X12_in, m_X12_openLoop_j29, m_X12_openLoop_j30, m_X12_openLoop_j52, m_X12_isFine, bnd, c5, c6, c7, c8, c9, g2]) (ms_s rfl rfl) hI.thr
  | false =>
    have hne := hF.ne_le
    have hF' := loopT_F (l := l) (m := m) hF l2 ⟨m1, m2⟩ hlm
    have hni := hF.1
    obtain ⟨h1, h2, h3, h4, h5⟩ := hC
    obtain ⟨k1, k2, k3, k4, k5⟩ := hM
    have g1 : I 1 6 = 0 := hC3
    have g2 : I 196 11 = 0 := hM3
    have e2 : ¬ 11 ≤ nI ne := nI_ge (b := 11) (by omega) (by omega)
    have e3 : inb (nI ne) 11 = true := inb_n (by omega) (by omega)
    have e3' : inb (nI ne) 12 = true := inb_n (by omega) (by omega)
    have e4 : (nI ne).toNatClampNeg = ne := nI_clamp (by omega)
    have a1 : ∀ n : Nat, 3 + (13 + n) = 16 + n := fun n => by omega
    have e9 : ¬ 1 = 16 + ne := by omega
    have e10 : ¬ 196 = 16 + ne := by omega
    have q1 : m_X11_openLoop 0 (nI l) (nI m) I = some (.inl (), ms (ms (ms (ms (ms (ms (ms I (16 + ne) 0 1) (16 + ne) 1 (nI ni)) (16 + ne) 2 (nI ni)) (16 + ne) 3 (nI l)) (16 + ne) 4 (nI m)) 1 5 (nI ne + 1)) 1 6 1) := by
      simp [m_X11_openLoop, m_X11_areTimes, c5, c6, c7, c8, c9, m_X8_isLoopOpen, g1, okz, gd_t, m_X8_beginLoop, m_X8_appendEntry, h2, e2, e3, e4, m_X0_begin, bnd, ms_app, a1, e9, h1]
    generalize hI1 : ms (ms (ms (ms (ms (ms (ms I (16 + ne) 0 1) (16 + ne) 1 (nI ni)) (16 + ne) 2 (nI ni)) (16 + ne) 3 (nI l)) (16 + ne) 4 (nI m)) 1 5 (nI ne + 1)) 1 6 1 = I1 at q1
    have w1 : ∀ b, I1 196 b = I 196 b := fun b => by rw [← hI1]; simp [ms_app, e10]
    have w2 : ∀ a b, ¬ (a = 1 ∧ 4 ≤ b ∧ b ≤ 6) → ¬ (a = 16 + ne) → I1 a b = I a b := fun a b z1 z2 => by
      rw [← hI1]
      simp only [ms_app]
      repeat rw [if_neg (by omega)]
    have q2 : m_X12_openLoop 196 (nI l) (nI m) I1 = some (ms (ms (ms (ms (ms (ms (ms (ms I1 196 48 0) 201 ne 1) 202 ne (nI ni)) 203 ne (nI ni - 1)) 204 ne (nI l)) 205 ne (nI m)) 196 10 (nI ne + 1)) 196 11 1) := by
      simp [m_X12_openLoop, m_X12_in, m_X12_openLoop_j30, m_X12_openLoop_j52, m_X12_isFine, bnd, c5, c6, c7, c8, c9, w1, g2, ms_app, k2, e3', gd_t, okz, e4, k1]
    generalize hI2 : ms (ms (ms (ms (ms (ms (ms (ms I1 196 48 0) 201 ne 1) 202 ne (nI ni)) 203 ne (nI ni - 1)) 204 ne (nI l)) 205 ne (nI m)) 196 10 (nI ne + 1)) 196 11 1 = I2 at q2
    have w3 : ∀ a b, ¬ (a = 196 ∧ (b = 48 ∨ b = 10 ∨ b = 11)) → ¬ (201 ≤ a ∧ a ≤ 205 ∧ b = ne) → I2 a b = I1 a b := fun a b z1 z2 => by
      rw [← hI2]
      simp only [ms_app]
      repeat rw [if_neg (by omega)]
    refine opB_ok q1 q2 (by rw [← hI2]; simp [ms_app]) (hI.sch (fun a b hd => ?_) ⟨loopT T ni ne l m, ni, ne + 1, true, ?_, ?_, hF'⟩)
    · unfold DSch at hd
      rw [w3 a b (by omega) (by omega), w2 a b (by omega) (by omega)]
    · refine ⟨?_, ?_, ?_, fun i hi => ?_, fun e he => ?_⟩
      · rw [w3 _ _ (by omega) (by omega), ← hI1]; simp [ms_app, e9, h1]
      · rw [w3 _ _ (by omega) (by omega), ← hI1]; simp [ms_app, e9, nI_1]
      · rw [w3 _ _ (by omega) (by omega), ← hI1]; simp [ms_app, e9, bz]
      · obtain ⟨b1, b2, b3⟩ := h4 i hi
        have v : ∀ x, x < 3 → loopT T ni ne l m x i = T x i := fun x hx => by
          have : x ≠ 3 ∧ x ≠ 4 ∧ x ≠ 5 ∧ x ≠ 6 ∧ x ≠ 7 := by omega
          simp [loopT, up2, this]
        rw [v 0 (by omega), v 1 (by omega), v 2 (by omega)]
        exact ⟨by rw [w3 _ _ (by omega) (by omega), w2 _ _ (by omega) (by omega), b1], by rw [w3 _ _ (by omega) (by omega), w2 _ _ (by omega) (by omega), b2], by rw [w3 _ _ (by omega) (by omega), w2 _ _ (by omega) (by omega), b3]⟩
      · have hw : ∀ b, I2 (16 + e) b = I1 (16 + e) b := fun b => w3 _ _ (by omega) (by omega)
        simp only [hw]
        by_cases x3 : e = ne
        · subst x3
          rw [← hI1]
          have x2 : ¬ 16 + e = 1 := by omega
          simp [ms_app, loopT, up2, x2]
          decide
        · obtain ⟨b1, b2, b3, b4, b5⟩ := h5 e (by omega)
          have hw2 : ∀ b, I1 (16 + e) b = I (16 + e) b := fun b => w2 _ _ (by omega) (by omega)
          simp [hw2, loopT, up2, x3, b1, b2, b3, b4, b5]
    · refine ⟨?_, ?_, ?_, fun i hi => ?_, fun e he => ?_⟩
      · rw [w3 _ _ (by omega) (by omega), w1, k1]
      · rw [← hI2]; simp [ms_app, nI_1]
      · rw [← hI2]; simp [ms_app, bz]
      · obtain ⟨b1, b2, b3⟩ := k4 i hi
        have v : ∀ x, x < 3 → loopT T ni ne l m x i = T x i := fun x hx => by
          have : x ≠ 3 ∧ x ≠ 4 ∧ x ≠ 5 ∧ x ≠ 6 ∧ x ≠ 7 := by omega
          simp [loopT, up2, this]
        rw [v 0 (by omega), v 1 (by omega), v 2 (by omega)]
        exact ⟨by rw [w3 _ _ (by omega) (by omega), w2 _ _ (by omega) (by omega), b1], by rw [w3 _ _ (by omega) (by omega), w2 _ _ (by omega) (by omega), b2], by rw [w3 _ _ (by omega) (by omega), w2 _ _ (by omega) (by omega), b3]⟩
      · have v1 : ∀ i, loopT T ni ne l m 1 i = T 1 i := fun i => by simp [loopT, up2]
        by_cases x3 : e = ne
        · subst x3
          rw [← hI2]
          refine ⟨by simp [ms_app, loopT, up2]; decide, by simp [ms_app, loopT, up2], by simp [ms_app, loopT, up2], by simp [ms_app, loopT, up2], fun _ => by simp [ms_app, loopT, up2], fun i z1 z2 => ?_⟩
          simp [loopT, up2] at z1 z2
          omega
        · obtain ⟨b1, b2, b3, b4, b5, b6⟩ := k5 e (by omega)
          have v : ∀ x, loopT T ni ne l m x e = T x e := fun x => by simp [loopT, up2, x3]
          have hw : ∀ a, 196 < a → I2 a e = I a e := fun a z => by rw [w3 a e (by omega) (by omega), w2 a e (by omega) (by omega)]
          rw [hw _ (by omega), hw _ (by omega), hw _ (by omega), hw _ (by omega), hw _ (by omega), v1, v 3, v 4, v 5, v 6, v 7]
          exact ⟨b1, b2, b3, b4, b5, fun i z1 z2 => by rw [w3 _ _ (by omega) (by omega), w2 _ _ (by omega) (by omega), b6 i z1 z2]⟩
theorem i32_close (a b : Int32) : a - 1 - b + 1 = a - b := by grind
theorem op_closeLoop {I : Mem} (hI : Inv I) : OKc (caseA (wrE hv_closeLoop (m_X11_closeLoop 0 I)) (fun I => m_X12_closeLoop 196 I)) := by
  obtain ⟨T, ni, ne, op, hC, hM, hF⟩ := hI.1
  have hne11 := hF.2.1
  obtain ⟨h1, h2, h3, h4, h5⟩ := hC
  obtain ⟨k1, k2, k3, k4, k5⟩ := hM
  cases op with
  | false =>
    have g1 : I 1 6 = 0 := h3
    have g2 : I 196 11 = 0 := k3
    have q2 : m_X12_closeLoop 196 I = some (0, ms I 196 48 1) := by
      by_cases x : ne = 0
      · have g3 : I 196 10 = 0 := by rw [k2, x]; rfl
        simp [m_X12_closeLoop, g3, m_X12_closeLoop_j36, g2, m_X12_closeLoop_j49, m_X12_closeLoop_j54, m_X12_isFine, bnd]
      · have g3 : ¬ nI ne = 0 := nI_ne0 (by omega) (by omega)
        have e6 : nI ne - 1 = nI (ne - 1) := by
          obtain ⟨k, rfl⟩ : ∃ k, ne = k + 1 := ⟨ne - 1, by omega⟩
          rw [nI_pred]; rfl
        have e3 : inb (nI (ne - 1)) 12 = true := inb_n (by omega) (by omega)
        simp [m_X12_closeLoop, k2, g3, e6, e3, gd_t, m_X12_closeLoop_j36, g2, m_X12_closeLoop_j49, m_X12_closeLoop_j54, m_X12_isFine, bnd]
    exact opA_ex (c := 1) (k := 1) (I1 := I) (by simp [m_X11_closeLoop, m_X8_isLoopOpen, g1, okz, gd_t, m_X11_closeLoop_j20]) rfl (by decide) q2 (ms_s rfl rfl) hI.thr
  | true =>
    have hne : 0 < ne := Nat.pos_of_ne_zero fun z => by have := (hF.2.2.2.2.2.1 z).2; cases this
    have g1 : I 1 6 = 1 := h3
    have g2 : I 196 11 = 1 := k3
    have e6 : nI ne - 1 = nI (ne - 1) := by
      obtain ⟨k, rfl⟩ : ∃ k, ne = k + 1 := ⟨ne - 1, by omega⟩
      rw [nI_pred]; rfl
    have e5 : ¬ nI (ne - 1) < 0 := nI_pos (by omega)
    have e7 : ¬ nI ne ≤ nI (ne - 1) := nI_ge (by omega) (by omega)
    have e3 : inb (nI (ne - 1)) 11 = true := inb_n (by omega) (by omega)
    have e3' : inb (nI (ne - 1)) 12 = true := inb_n (by omega) (by omega)
    have e4 : (nI (ne - 1)).toNatClampNeg = ne - 1 := nI_clamp (by omega)
    have e8 : iO (16 + (ne - 1)) 0 = true := io_en (ne - 1) (by omega)
    have a1 : ∀ n : Nat, 3 + (13 + n) = 16 + n := fun n => by omega
    have g3 : ¬ nI ne = 0 := nI_ne0 (by omega) (by omega)
    obtain ⟨b1, b2, b3, b4, b5⟩ := h5 (ne - 1) (by omega)
    obtain ⟨d1, d2, d3, d4, d5, d6⟩ := k5 (ne - 1) (by omega)
    have f := hF.2.2.2.1 (ne - 1) (by omega)
    have hni := hF.1
    have s1 : nI (T 5 (ne - 1)) - nI (T 4 (ne - 1)) = nI (T 5 (ne - 1) - T 4 (ne - 1)) := pk_sub f.2.1
    by_cases x : T 5 (ne - 1) - T 4 (ne - 1) = 0
    · have s2 : nI (T 5 (ne - 1) - T 4 (ne - 1)) = 0 := by rw [x]; rfl
      refine opA_ex (c := 1) (k := 1) (I1 := I) (I2 := ms I 196 48 1) (v := 0) (by simp [m_X11_closeLoop, m_X8_isLoopOpen, g1, okz, gd_t, m_X11_closeLoop_j20, m_X8_openLoopSize, m_X8_entryAt, h2, e6, e5, e7, e3, e4, a1, e8, b2, b3, s1, s2]) rfl (by decide) (by simp [m_X12_closeLoop, k2, g3, e6, e3', e4, gd_t, d2, d3, i32_close, s1, s2, m_X12_closeLoop_j36, g2, m_X12_closeLoop_j49, m_X12_closeLoop_j54, m_X12_isFine, bnd]) (ms_s rfl rfl) hI.thr
    · have s2 : ¬ nI (T 5 (ne - 1) - T 4 (ne - 1)) = 0 := nI_ne0 (by omega) (by omega)
      refine opA_ok (v := nI (T 5 (ne - 1) - T 4 (ne - 1))) (I1 := ms I 1 6 0) (I2 := ms (ms (ms (ms I 1 6 0) 230 0 (nI (T 5 (ne - 1) - T 4 (ne - 1)))) 196 48 0) 196 11 0) ?_ ?_ ?_ ?_ ?_
      · simp [m_X11_closeLoop, m_X8_isLoopOpen, g1, okz, gd_t, m_X8_openLoopSize, m_X8_entryAt, h2, e6, e5, e7, e3, e4, a1, e8, b2, b3, s1, s2, m_X8_endLoop, bnd]
      · simp [m_X12_closeLoop, k2, g3, e6, e3', e4, gd_t, d2, d3, i32_close, s1, s2, m_X12_closeLoop_j36, g2, m_X12_closeLoop_j54, m_X12_isFine, bnd, ms_app]
      · simp [ms_app]
      · simp [ms_app]
      · refine hI.sch (fun a b hd => ?_) ⟨T, ni, ne, false, ?_, ?_, ?_⟩
        · unfold DSch at hd
          simp only [ms_app]
          repeat rw [if_neg (by omega)]
        · refine ⟨by simp [ms_app, h1], by simp [ms_app, h2], by simp [ms_app, bz], fun i hi => ?_, fun e he => ?_⟩
          · have x2 : ∀ b, ¬ (6 + i = 1 ∧ b = 6) := fun b => by omega
            obtain ⟨c1, c2, c3⟩ := h4 i hi
            have x3 : ¬ 6 + i = 230 := by have := hF.1; omega
            have x4 : ¬ 6 + i = 196 := by have := hF.1; omega
            have x5 : ¬ 6 + i = 1 := by omega
            simp [ms_app, x3, x4, x5, c1, c2, c3]
          · obtain ⟨c1, c2, c3, c4, c5⟩ := h5 e he
            have x3 : ¬ 16 + e = 230 := by omega
            have x4 : ¬ 16 + e = 196 := by omega
            have x5 : ¬ 16 + e = 1 := by omega
            simp [ms_app, x3, x4, x5, c1, c2, c3, c4, c5]
        · exact ⟨by simp [ms_app, k1], by simp [ms_app, k2], by simp [ms_app, bz], fun i hi => by simpa [ms_app] using k4 i hi, fun e he => by simpa [ms_app] using k5 e he⟩
        · obtain ⟨f1, f2, f3, f4, f5, f6, f7⟩ := hF
          refine ⟨f1, f2, f3, fun e he => ?_, f5, fun z => absurd z (by omega), fun z => nomatch z⟩
          have k := f4 e he
          refine ⟨k.1, k.2.1, k.2.2.1, k.2.2.2.1, k.2.2.2.2.1, k.2.2.2.2.2.1, k.2.2.2.2.2.2.1, k.2.2.2.2.2.2.2.1, k.2.2.2.2.2.2.2.2.1, k.2.2.2.2.2.2.2.2.2.1, fun _ => ?_⟩
          by_cases y : e + 1 < ne
          · exact k.2.2.2.2.2.2.2.2.2.2 (Or.inr y)
          · have : e = ne - 1 := by omega
            subst this
            omega
