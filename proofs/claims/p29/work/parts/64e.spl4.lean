theorem FlM.g {J J' : Mem} {F : List (Nat × Nat)} (h : FlM J F) (hf : ∀ a b, (a = 196 ∧ b = 16) ∨ a = 207 ∨ a = 208 → J' a b = J a b) : FlM J' F := by
  obtain ⟨k1, k2⟩ := h
  refine ⟨by rw [hf _ _ (Or.inl ⟨rfl, rfl⟩), k1], fun i hi => ?_⟩
  rw [hf _ _ (Or.inr (Or.inl rfl)), hf _ _ (Or.inr (Or.inr rfl))]
  exact k2 i hi
