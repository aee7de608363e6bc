theorem io_msg {m d : Nat} (h : (m = 62 ∧ d = 127) ∨ (m = 127 ∧ d = 62)) : iO m 4 = true := by
  rcases h with ⟨rfl, -⟩ | ⟨rfl, -⟩ <;> decide +kernel
theorem io_row : ∀ i, i < 20 → iO (67 + 3 * i) 9 = true ∧ iO (132 + 3 * i) 9 = true := by
  have h : ∀ i : Fin 20, iO (67 + 3 * i.val) 9 = true ∧ iO (132 + 3 * i.val) 9 = true := by decide +kernel
  exact fun i hi => h ⟨i, hi⟩
theorem io_seg {m d s : Nat} (h : (m = 62 ∧ d = 127) ∨ (m = 127 ∧ d = 62)) (hs : s < 18) : iO (m + 8 + 3 * s) 9 = true := by
  have := io_row (s + 1) (by omega)
  rcases h with ⟨rfl, -⟩ | ⟨rfl, -⟩
  · rw [show 62 + 8 + 3 * s = 67 + 3 * (s + 1) by omega]; exact this.1
  · rw [show 127 + 8 + 3 * s = 132 + 3 * (s + 1) by omega]; exact this.2
theorem two_le {n : Nat} (h : n < 1000) : (2 : Int32) ≤ nI (n + 2) := nI_le (a := 2) (by omega) (by omega)
theorem sub_two (n : Nat) : nI (n + 2) - 2 = nI n := pk_sub (a := n + 2) (b := 2) (by omega)
theorem bC {I : Mem} {m nb : Nat} (hn : nb ≤ 18) (h : I m 2 = nI (nb + 2)) : m_X4_bodyCount m I = some (nI nb) := by
  simp [m_X4_bodyCount, h, two_le (n := nb) (by omega), sub_two]
theorem bA {I : Mem} {m d nb s : Nat} (hm : (m = 62 ∧ d = 127) ∨ (m = 127 ∧ d = 62)) (hn : nb ≤ 18) (h : I m 2 = nI (nb + 2)) (hs : s < nb) : m_X4_bodyAt m (nI s) I = some (m + 8 + 3 * s) := by
  have e1 : ¬ nI s < 0 := nI_pos (by omega)
  have e2 : ¬ nI nb ≤ nI s := nI_ge hs (by omega)
  have e3 : ¬ nI (s + 1) < 0 := nI_pos (by omega)
  have e4 : ¬ nI (nb + 2) ≤ nI (s + 1) := nI_ge (by omega) (by omega)
  have e5 : inb (nI (s + 1)) 20 = true := inb_n (by omega) (by omega)
  have e6 : (nI (s + 1)).toNatClampNeg = s + 1 := nI_clamp (by omega)
  have e7 : m + 1 + (4 + 3 * (s + 1)) = m + 8 + 3 * s := by omega
  have e8 := io_seg hm (show s < 18 by omega)
  simp [m_X4_bodyAt, e1, bC hn h, e2, m_X4_at, nI_1, e3, h, e4, e5, e6, gd_t, e7, e8]
theorem countIn_ok {I : Mem} {g c e l : Nat} (hc : c ≤ 5) (he : e < c) (h1 : I g 4 = nI c) (h2 : I (g + 2) e = nI l) : m_X9_countIn g (nI e) I = some (nI l) := by
  have z0 : ¬ nI e < 0 := nI_pos (by omega)
  have z1 : ¬ nI c ≤ nI e := nI_ge he (by omega)
  have z2 : inb (nI e) 5 = true := inb_n (by omega) (by omega)
  have z3 : (nI e).toNatClampNeg = e := nI_clamp (by omega)
  simp [m_X9_countIn, z0, h1, z1, z2, z3, gd_t, h2]
theorem letterIn_ok {I : Mem} {g c e l x q : Nat} (hc : c ≤ 5) (he : e < c) (h1 : I g 4 = nI c) (h2 : I (g + 2) e = nI l) (hl : l ≤ 8) (hx : x < l) (h3 : I (g + 1) (8 * e + x) = nI q) (hq : q < 65536) : m_X9_letterIn g (nI e) (nI x) I = some (nI q) := by
  have z0 : ¬ nI x < 0 := nI_pos (by omega)
  have z1 : ¬ nI l ≤ nI x := nI_ge hx (by omega)
  have z2 : ¬ 8 ≤ nI x := nI_ge (b := 8) (by omega) (by omega)
  have z3 : nI e * 8 + nI x = nI (8 * e + x) := by
    have : nI e * 8 = nI (e * 8) := pk_mul e 8
    rw [this, nI_add, Nat.mul_comm]
  have z4 : inb (nI (8 * e + x)) 40 = true := inb_n (by omega) (by omega)
  have z5 : (nI (8 * e + x)).toNatClampNeg = 8 * e + x := nI_clamp (by omega)
  have z6 : okc (nI q) = true := okc_n' hq
  simp [m_X9_letterIn, z0, countIn_ok hc he h1 h2, z1, z2, m_X9_letterIn_j24, z3, z4, z5, gd_t, h3, z6]
