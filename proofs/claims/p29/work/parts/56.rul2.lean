theorem io_sh {m d : Nat} (h : (m = 192 ∧ d = 194) ∨ (m = 194 ∧ d = 192)) : iO m 10 = true ∧ iO d 10 = true := by
  rcases h with ⟨rfl, rfl⟩ | ⟨rfl, rfl⟩ <;> exact ⟨by decide +kernel, by decide +kernel⟩
theorem at_ok {I : Mem} {g n x q : Nat} (hn : n ≤ 300) (hx : x < n) (h1 : I g 1 = nI n) (h2 : I (g + 1) x = nI q) (hq : q < 65536) : m_X10_at g (nI x) I = some (nI q) := by
  have z0 : ¬ nI x < 0 := nI_pos (by omega)
  have z1 : ¬ nI n ≤ nI x := nI_ge hx (by omega)
  have z2 : inb (nI x) 300 = true := inb_n (by omega) (by omega)
  have z3 : (nI x).toNatClampNeg = x := nI_clamp (by omega)
  have z6 : okc (nI q) = true := okc_n' hq
  simp [m_X10_at, z0, h1, z1, z2, z3, gd_t, h2, z6]
