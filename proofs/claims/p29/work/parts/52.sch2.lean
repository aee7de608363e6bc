theorem SchF.ne_le {T : Nat → Nat → Nat} {ni ne : Nat} (hF : SchF T ni ne false) : ne ≤ ni := by
  obtain ⟨f1, f2, f3, f4, f5, f6, f7⟩ := hF
  rcases Nat.eq_zero_or_pos ne with h0 | h0
  · omega
  · have q := f4 (ne - 1) (by omega)
    have q2 := (f5 h0).2
    have q3 := q.2.2.2.2.2.2.2.2.2.2 (Or.inl rfl)
    omega
