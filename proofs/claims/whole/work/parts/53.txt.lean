def caseV (r1 : Option Int32) (g : Option (Int32 × Mem)) : Option (Mem ⊕ Unit) := Option.bind r1 fun r1 => Option.bind g fun r2 => if r1 = r2.1 then (some (.inl r2.2)) else (some (.inr ()))
theorem opV_ok {f : Option Int32} {g : Option (Int32 × Mem)} {v : Int32} {I2 : Mem} (h1 : f = some v) (h2 : g = some (v, I2)) (h3 : Inv I2) : OKc (caseV f g) := ⟨I2, by subst h1; subst h2; simp [caseV], h3⟩
def caseC (f : Option Mem) (g : Mem → Option Mem) : Option (Mem ⊕ Unit) := Option.bind f fun I1 => Option.bind (g I1) fun I2 => some (.inl I2)
theorem op_clear {I : Mem} (hI : Inv I) : OKc (caseC (m_X11_clear 0 I) (fun I => m_X12_clear 196 I)) := by
  have q1 : m_X11_clear 0 I = some (ms (ms (ms (ms (ms I 1 4 0) 1 5 0) 1 6 0) 38 2 0) 0 7 0) := by simp [m_X11_clear, m_X8_wipe, m_X7_wipe, bnd]
  generalize hI1 : ms (ms (ms (ms (ms I 1 4 0) 1 5 0) 1 6 0) 38 2 0) 0 7 0 = I1 at q1
  have q2 : m_X12_clear 196 I1 = some (ms (ms (ms (ms (ms (ms I1 196 48 0) 196 4 0) 196 10 0) 196 11 0) 196 42 0) 196 23 0) := by simp [m_X12_clear, bnd]
  refine ⟨ms (ms (ms (ms (ms (ms I1 196 48 0) 196 4 0) 196 10 0) 196 11 0) 196 42 0) 196 23 0, by simp [caseC, q1, q2], ?_⟩
  generalize hI2 : ms (ms (ms (ms (ms (ms I1 196 48 0) 196 4 0) 196 10 0) 196 11 0) 196 42 0) 196 23 0 = I2
  have w : ∀ a b, ¬ (a = 1 ∧ 4 ≤ b ∧ b ≤ 6) → ¬ (a = 38 ∧ b = 2) → ¬ (a = 0 ∧ b = 7) → ¬ (a = 196 ∧ (b = 4 ∨ b = 10 ∨ b = 11 ∨ b = 23 ∨ b = 42 ∨ b = 48)) → I2 a b = I a b := fun a b z1 z2 z3 z4 => by
    rw [← hI2, ← hI1]
    simp only [ms_app]
    repeat rw [if_neg (by omega)]
  obtain ⟨h1, h2, h3, h4, h5, ⟨m, d, h6, h6a, h6b, -⟩, h7, h8⟩ := hI
  refine ⟨⟨fun _ _ => 0, 0, 0, false, ?_, ?_, ?_⟩, h2.congr fun a b hd => ?_, h3.congr fun a b hd => ?_, h4.congr fun a b hd => ?_, h5.congr fun a b hd => ?_, ⟨m, d, h6, ?_, ?_, false, ?_, ?_, fun z => nomatch z⟩, ⟨0, by omega, ?_, ?_, fun r hr => absurd hr (Nat.not_lt_zero _)⟩, h8.congr fun a b hd => ?_⟩
  · exact ⟨by rw [← hI2, ← hI1]; simp [ms_app, nI_0], by rw [← hI2, ← hI1]; simp [ms_app, nI_0], by rw [← hI2, ← hI1]; simp [ms_app, bz], fun i hi => absurd hi (Nat.not_lt_zero _), fun i hi => absurd hi (Nat.not_lt_zero _)⟩
  · exact ⟨by rw [← hI2, ← hI1]; simp [ms_app, nI_0], by rw [← hI2, ← hI1]; simp [ms_app, nI_0], by rw [← hI2, ← hI1]; simp [ms_app, bz], fun i hi => absurd hi (Nat.not_lt_zero _), fun i hi => absurd hi (Nat.not_lt_zero _)⟩
  · exact ⟨by omega, by omega, fun i hi => absurd hi (Nat.not_lt_zero _), fun i hi => absurd hi (Nat.not_lt_zero _), fun h => absurd h (Nat.lt_irrefl _), fun _ => ⟨rfl, rfl⟩, fun h => nomatch h⟩
  · unfold DNon at hd; exact w a b (by omega) (by omega) (by omega) (by omega)
  · unfold DTxt at hd; exact w a b (by omega) (by omega) (by omega) (by omega)
  · unfold DFlt at hd; exact w a b (by omega) (by omega) (by omega) (by omega)
  · unfold DCtl at hd; exact w a b (by omega) (by omega) (by omega) (by omega)
  · rw [w 0 5 (by omega) (by omega) (by omega) (by omega), h6a]
  · rw [w 0 6 (by omega) (by omega) (by omega) (by omega), h6b]
  · rw [← hI2, ← hI1]; simp [ms_app, bz]
  · rw [← hI2, ← hI1]; simp [ms_app, bz]
  · rw [← hI2, ← hI1]; simp [ms_app, nI_0]
  · rw [← hI2, ← hI1]; simp [ms_app, nI_0]
  · unfold DOut' at hd; exact w a b (by omega) (by omega) (by omega) (by omega)
theorem op_items {I : Mem} (hI : Inv I) : OKc (caseV (m_X11_items 0 I) (m_X12_items 196 I)) := by
  obtain ⟨T, ni, ne, op, hC, hM, hF⟩ := hI.1
  refine opV_ok (v := nI ni) (I2 := ms I 196 48 0) ?_ ?_ hI.thr
  · simp [m_X11_items, m_X8_itemCount, hC.1]
  · simp [m_X12_items, bnd, ms_app, hM.1]
theorem Inv.txt {I I' : Mem} (h : Inv I) (hc : ∀ a b, ¬ (DTxt a b ∨ (a = 196 ∧ b = 48) ∨ a = 230) → I' a b = I a b) (hs : Txt I') : Inv I' := by
  obtain ⟨h1, h2, h3, h4, h5, h6, h7, h8⟩ := h
  unfold DTxt at hc
  exact ⟨h1.congr fun a b hd => hc a b (by unfold DSch at hd; omega), h2.congr fun a b hd => hc a b (by unfold DNon at hd; omega), hs, h4.congr fun a b hd => hc a b (by unfold DFlt at hd; omega), h5.congr fun a b hd => hc a b (by unfold DCtl at hd; omega), h6.congr fun a b hd => hc a b (by unfold DAcc' at hd; omega), h7.congr fun a b hd => hc a b (by unfold DRul at hd; omega), h8.congr fun a b hd => hc a b (by unfold DOut' at hd; omega)⟩
theorem op_feed {I : Mem} (hI : Inv I) (t : Nat) (ht : t < 65536) : OKc (caseA (wrE hv_feed (m_X11_feed 0 (nI t) I)) (fun I => m_X12_feed 196 (nI t) I)) := by
  obtain ⟨tx, tl, h1, h2, h3, h4⟩ := hI.2.2.1
  have bad1 : (m_X11_feed 0 (nI t) I = some (.inr 0, I)) → (m_X12_feed 196 (nI t) I = some (0, ms I 196 48 1)) → OKc (caseA (wrE hv_feed (m_X11_feed 0 (nI t) I)) (fun I => m_X12_feed 196 (nI t) I)) :=
    fun h1 h2 => opA_ex (c := 1) h1 rfl (by decide) h2 (ms_s rfl rfl) hI.thr
  by_cases c1 : nI t < 32
  · exact bad1 (by simp [m_X11_feed, m_X11_isLetter, c1]) (by simp [m_X12_feed, m_X12_in, c1, m_X12_feed_j31, m_X12_isFine, bnd])
  by_cases c2 : 126 < nI t
  · exact bad1 (by simp [m_X11_feed, m_X11_isLetter, c1, c2]) (by simp [m_X12_feed, m_X12_in, c1, c2, m_X12_feed_j31, m_X12_isFine, bnd])
  have t1 : 32 ≤ t := Nat.not_lt.mp fun h => c1 (nI_lt (b := 32) h (by omega))
  have t2 : t ≤ 126 := Nat.not_lt.mp fun h => c2 (nI_lt (a := 126) h (by omega))
  by_cases hn : tl = 300
  · subst hn
    have g1 : ¬ nI 300 < 300 := by decide
    have g2 : nI 300 = 300 := by decide
    exact opA_ex (c := 2) (k := 1) (I1 := I) (I2 := ms I 196 48 2) (v := 0) (by simp [m_X11_feed, m_X11_isLetter, c1, c2, m_X10_count, h2, g1]) rfl (by decide) (by simp [m_X12_feed, m_X12_in, c1, c2, h3, g2, m_X12_feed_j31, m_X12_isFine, bnd]) (ms_s rfl rfl) hI.thr
  · have g1 : nI tl < 300 := nI_lt (b := 300) (by omega) (by omega)
    have g2 : ¬ nI tl = 300 := fun h => absurd ((nI_eq (b := 300) (by omega) (by omega)).mp h) (by omega)
    have e3 : inb (nI tl) 300 = true := inb_n (by omega) (by omega)
    have e4 : (nI tl).toNatClampNeg = tl := nI_clamp (by omega)
    have hp : okc (nI t) = true := okc_n' ht
    refine opA_ok (v := nI tl + 1) (I1 := ms (ms I 28 tl (nI t)) 27 1 (nI tl + 1)) (I2 := ms (ms (ms (ms (ms (ms I 28 tl (nI t)) 27 1 (nI tl + 1)) 230 0 (nI tl + 1)) 196 48 0) 206 tl (nI t)) 196 13 (nI tl + 1)) ?_ ?_ ?_ ?_ ?_
    · simp [m_X11_feed, m_X11_isLetter, c1, c2, m_X10_count, h2, g1, m_X10_put, e3, e4, gd_t, hp, bnd, ms_app]
    · simp [m_X12_feed, m_X12_in, c1, c2, h3, g2, m_X12_feed_j31, m_X12_isFine, bnd, ms_app, e3, e4, gd_t, hp]
    · simp [ms_app]
    · simp [ms_app]
    · refine hI.txt (fun a b hd => ?_) ⟨fun i => if i = tl then t else tx i, tl + 1, by omega, by simp [ms_app, nI_1], by simp [ms_app, nI_1], fun i hi => ?_⟩
      · unfold DTxt at hd
        simp only [ms_app]
        repeat rw [if_neg (by omega)]
      · by_cases x : i = tl
        · subst x
          simp [ms_app, t1, t2]
        · have := h4 i (by omega)
          simpa [ms_app, x] using this
theorem op_discard {I : Mem} (hI : Inv I) : OKc (Option.bind (m_X11_discard 0 I) fun r1 => Option.bind (m_X12_discard 196 r1.2) fun r2 => if r1.1 = r2.1 then (some (.inl r2.2)) else (some (.inr ()))) := by
  obtain ⟨tx, tl, h1, h2, h3, h4⟩ := hI.2.2.1
  refine ⟨ms (ms (ms (ms I 27 1 0) 27 2 0) 196 48 0) 196 13 0, ?_, ?_⟩
  · simp [m_X11_discard, m_X10_count, m_X10_wipe, bnd, m_X12_discard, ms_app, h2, h3]
  · have hI' : Inv (ms I 27 2 0) := hI.congr fun a b hd => ms_o (by unfold DInv DSch DNon DTxt DFlt DCtl DAcc' DRul DOut' at hd; omega)
    refine hI'.txt (fun a b hd => ?_) ⟨tx, 0, by omega, by simp [ms_app, nI_0], by simp [ms_app, nI_0], fun i hi => absurd hi (Nat.not_lt_zero _)⟩
    unfold DTxt at hd
    simp only [ms_app]
    by_cases z : a = 27 ∧ b = 2
    · rw [if_neg (by omega), if_neg (by omega), if_pos z, if_pos z]
    · repeat rw [if_neg (by omega)]
theorem op_length {I : Mem} (hI : Inv I) : OKc (caseV (m_X11_length 0 I) (m_X12_length 196 I)) := by
  obtain ⟨tx, tl, h1, h2, h3, h4⟩ := hI.2.2.1
  refine opV_ok (v := nI tl) (I2 := ms I 196 48 0) ?_ ?_ hI.thr
  · simp [m_X11_length, m_X10_count, h2]
  · simp [m_X12_length, bnd, ms_app, h3]
/-- an index: outside, or a number below -/
theorem ix_or (x : Int32) {n : Nat} (hn : n < 2 ^ 30) : x < 0 ∨ (¬ x < 0 ∧ nI n ≤ x ∧ ¬ x < nI n ∧ nI n - 1 < x) ∨ ∃ j, j < n ∧ x = nI j ∧ ¬ nI j < 0 ∧ ¬ nI n ≤ nI j ∧ nI j < nI n ∧ ¬ nI n - 1 < nI j := by
  rcases pk_ix x (n := n) (by omega) with h | h | ⟨j, hj, rfl⟩
  · exact Or.inl h
  · by_cases h0 : x < 0
    · exact Or.inl h0
    · refine Or.inr (Or.inl ⟨h0, h, by rw [Int32.not_lt]; exact h, ?_⟩)
      rw [Int32.lt_iff_toInt_lt]
      rw [Int32.le_iff_toInt_le] at h
      have := pk_sub_toInt (a := n) (b := 1) hn (by omega)
      have e : nI n - 1 = nI n - nI 1 := rfl
      rw [e, this]
      rw [nI_toInt (by omega)] at h
      omega
  · refine Or.inr (Or.inr ⟨j, hj, rfl, nI_pos (by omega), nI_ge hj (by omega), nI_lt hj (by omega), ?_⟩)
    rw [Int32.lt_iff_toInt_lt]
    have := pk_sub_toInt (a := n) (b := 1) hn (by omega)
    have e : nI n - 1 = nI n - nI 1 := rfl
    rw [e, this, nI_toInt (by omega)]
    omega
theorem op_faultKind {I : Mem} (hI : Inv I) (p : Int32) : OKc (caseA (wrE hv_faultKind (m_X11_faultKind 0 p I)) (fun I => m_X12_faultKind 196 p I)) := by
  obtain ⟨nf, h1, h2, h3, h4⟩ := hI.2.2.2.1
  rcases ix_or p (n := nf) (by omega) with c | ⟨c0, c1, c2, c3⟩ | ⟨j, hj, rfl, c0, c1, c2, c3⟩
  · exact opA_ex (c := 1) (k := 2) (I1 := I) (I2 := ms I 196 48 1) (v := 0) (by simp [m_X11_faultKind, m_X11_needFault, c, m_X11_needFault_j15, obx]) rfl (by decide) (by simp [m_X12_faultKind, m_X12_in, c, m_X12_faultKind_j20, m_X12_isFine, bnd]) (ms_s rfl rfl) hI.thr
  · exact opA_ex (c := 1) (k := 2) (I1 := I) (I2 := ms I 196 48 1) (v := 0) (by simp [m_X11_faultKind, m_X11_needFault, c0, m_X1_count, h2, c2, m_X11_needFault_j15, obx]) rfl (by decide) (by simp [m_X12_faultKind, m_X12_in, c0, h3, c3, m_X12_faultKind_j20, m_X12_isFine, bnd]) (ms_s rfl rfl) hI.thr
  · have e3 : inb (nI j) 141 = true := inb_n (by omega) (by omega)
    have e3' : inb (nI j) 160 = true := inb_n (by omega) (by omega)
    have e4 : (nI j).toNatClampNeg = j := nI_clamp (by omega)
    exact opA_ok (v := I 30 j) (I1 := I) (I2 := ms (ms I 230 0 (I 30 j)) 196 48 0) (by simp [m_X11_faultKind, m_X11_needFault, c0, c2, m_X1_count, h2, obx, m_X11_faultKind_j5, m_X1_kindOf, c1, e3, e4, gd_t]) (by simp [m_X12_faultKind, m_X12_in, c0, h3, c3, m_X12_faultKind_j20, m_X12_isFine, bnd, ms_app, e3', e4, gd_t, (h4 j hj).1]) (ms_s rfl rfl) (by simp [ms_app]) hI.out.thr
theorem op_faultPlace {I : Mem} (hI : Inv I) (p : Int32) : OKc (caseA (wrE hv_faultPlace (m_X11_faultPlace 0 p I)) (fun I => m_X12_faultPlace 196 p I)) := by
  obtain ⟨nf, h1, h2, h3, h4⟩ := hI.2.2.2.1
  rcases ix_or p (n := nf) (by omega) with c | ⟨c0, c1, c2, c3⟩ | ⟨j, hj, rfl, c0, c1, c2, c3⟩
  · exact opA_ex (c := 1) (k := 2) (I1 := I) (I2 := ms I 196 48 1) (v := 0) (by simp [m_X11_faultPlace, m_X11_needFault, c, m_X11_needFault_j15, obx]) rfl (by decide) (by simp [m_X12_faultPlace, m_X12_in, c, m_X12_faultPlace_j20, m_X12_isFine, bnd]) (ms_s rfl rfl) hI.thr
  · exact opA_ex (c := 1) (k := 2) (I1 := I) (I2 := ms I 196 48 1) (v := 0) (by simp [m_X11_faultPlace, m_X11_needFault, c0, m_X1_count, h2, c2, m_X11_needFault_j15, obx]) rfl (by decide) (by simp [m_X12_faultPlace, m_X12_in, c0, h3, c3, m_X12_faultPlace_j20, m_X12_isFine, bnd]) (ms_s rfl rfl) hI.thr
  · have e3 : inb (nI j) 141 = true := inb_n (by omega) (by omega)
    have e3' : inb (nI j) 160 = true := inb_n (by omega) (by omega)
    have e4 : (nI j).toNatClampNeg = j := nI_clamp (by omega)
    exact opA_ok (v := I 31 j) (I1 := I) (I2 := ms (ms I 230 0 (I 31 j)) 196 48 0) (by simp [m_X11_faultPlace, m_X11_needFault, c0, c2, m_X1_count, h2, obx, m_X11_faultPlace_j5, m_X1_placeOf, c1, e3, e4, gd_t]) (by simp [m_X12_faultPlace, m_X12_in, c0, h3, c3, m_X12_faultPlace_j20, m_X12_isFine, bnd, ms_app, e3', e4, gd_t, (h4 j hj).2]) (ms_s rfl rfl) (by simp [ms_app]) hI.out.thr
theorem op_control {I : Mem} (hI : Inv I) : OKc (caseA (wrE hv_control (m_X11_control 0 I)) (fun I => m_X12_control 196 I)) := by
  obtain ⟨hc, h1, h2, h3⟩ := hI.2.2.2.2.1
  cases hc with
  | false =>
    rw [bz_f] at h1 h2
    exact opA_ex (c := 1) (k := 3) (I1 := I) (I2 := ms I 196 48 1) (v := 0) (by simp [m_X11_control, h1]) rfl (by decide) (by simp [m_X12_control, h2, m_X12_control_j13, m_X12_isFine, bnd]) (ms_s rfl rfl) hI.thr
  | true =>
    rw [bz_t] at h1 h2
    exact opA_ok (v := I 0 9) (I1 := I) (I2 := ms (ms I 230 0 (I 0 9)) 196 48 0) (by simp [m_X11_control, h1]) (by simp [m_X12_control, ms_app, h2, m_X12_control_j13, m_X12_isFine, bnd, h3 rfl]) (ms_s rfl rfl) (by simp [ms_app]) hI.out.thr
