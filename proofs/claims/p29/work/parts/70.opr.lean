theorem SegP.of {I J : Mem} {d s : Nat} {S : List Sg} {w : Nat → Nat} (hd : d = 62 ∨ d = 127) (hK : SgK (S.getD (s + 1) zS)) (hC : SgD J (d + 5 + 3 * (s + 1)) (S.getD (s + 1) zS)) (hA : J (d + 8 + 3 * s) 5 = nI (w (s + 1) / 100) ∧ J (d + 8 + 3 * s) 6 = nI (w (s + 1) / 10 % 10))
    (hM : AcM I s (S.getD (s + 1) zS)) (hP : I 218 s = nI (w (s + 1) / 100) ∧ I 219 s = nI (w (s + 1) / 10 % 10)) (hf : ∀ a b, d + 5 ≤ a ∧ a < d + 65 → I a b = J a b) (hs : s < 18) : SegP I d s := by
  obtain ⟨m1, m2, m3⟩ := hM
  obtain ⟨c1, c2, c3⟩ := hC
  have ht := okt_eq hK.2.1
  rw [show d + 5 + 3 * (s + 1) = d + 8 + 3 * s by omega] at c2 c3
  refine ⟨by rw [hf _ _ (by omega), c2, m1, ht.1], ?_, by rw [hf _ _ (by omega), hA.1, hP.1], by rw [hf _ _ (by omega), hA.2, hP.2], (S.getD (s + 1) zS).2.2.length, hK.1.1, by rw [hf _ _ (by omega), c3.1], m2, fun e he => ?_⟩
  · rw [m1]
    exact okc_n' (by omega)
  · obtain ⟨k1, k2⟩ := c3.2 e he
    obtain ⟨n1, n2⟩ := m3 e he
    have hll := hK.len he
    refine ⟨((S.getD (s + 1) zS).2.2.getD e []).length, hll, ?_, n1, fun x hx => ?_⟩
    · rw [hf _ _ (by omega), show d + 10 + 3 * s = d + 8 + 3 * s + 2 by omega, k1]
    · have lb := (hK.1.el he).at hx
      refine ⟨_, lb.1, lb.2, ?_, n2 x hx⟩
      rw [hf _ _ (by omega), show d + 9 + 3 * s = d + 8 + 3 * s + 1 by omega, k2 x hx (by omega)]
theorem FltP.of {I : Mem} {F : List (Nat × Nat)} (h1 : FlC I F) (h2 : FlM I F) (hl : F.length ≤ 141) : Flt I :=
  ⟨F.length, hl, h1.1, h2.1, fun i hi => ⟨by rw [(h1.2 i hi).1, (h2.2 i hi).1], by rw [(h1.2 i hi).2, (h2.2 i hi).2]⟩⟩
