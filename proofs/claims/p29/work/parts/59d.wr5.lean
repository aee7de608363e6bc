def Ltr (L : List Nat) : Prop := ∀ c ∈ L, 32 ≤ c ∧ c ≤ 126
theorem Ltr.app {A B : List Nat} (h : Ltr A) (h2 : Ltr B) : Ltr (A ++ B) := fun c hc => by
  rcases List.mem_append.mp hc with z | z
  · exact h c z
  · exact h2 c z
theorem Ltr.flat {n : Nat} {F : Nat → List Nat} (h : ∀ x, x < n → Ltr (F x)) : Ltr ((List.range n).flatMap F) := fun c hc => by
  obtain ⟨x, hx, hc⟩ := List.mem_flatMap.mp hc
  exact h x (List.mem_range.mp hx) c hc
theorem Ltr.one {c : Nat} (h1 : 32 ≤ c) (h2 : c ≤ 126) : Ltr [c] := fun x hx => by
  rw [List.mem_singleton.mp hx]
  exact ⟨h1, h2⟩
theorem Ltr.num (n : Nat) : Ltr (numL n) := by
  have d : ∀ u, Ltr [dg n u] := fun u => Ltr.one (by unfold dg; omega) (by unfold dg; omega)
  unfold numL
  split
  · exact d 1
  · split
    · exact (d 10).app (d 1)
    · split
      · exact (d 100).app ((d 10).app (d 1))
      · exact (d 1000).app ((d 100).app ((d 10).app (d 1)))
theorem Ltr_rel {q : Nat} (h1 : 32 ≤ q) (h2 : q ≤ 126) : Ltr (rel q) := by
  unfold rel
  split
  · exact (Ltr.one (c := 63) (by omega) (by omega)).app (Ltr.one h1 h2)
  · exact Ltr.one h1 h2
theorem Ltr_cont {I : Mem} {m s e : Nat} (h : SegP I m s) : Ltr (cont I m s e) := Ltr.flat fun x hx => by
  have := h.let_ hx
  exact Ltr_rel this.1 this.2.1
theorem Ltr_trn {I : Mem} {m s r : Nat} (h : SegP I m s) (hR : RulP I r) : Ltr (trn I m s r) := by
  obtain ⟨r1, r2, ⟨q0, r3, r4, r5⟩, -, -⟩ := hR
  have e : (I (42 + 2 * r) 2).toNatClampNeg = q0 := by rw [r2, r5, nI_clamp (by omega)]
  unfold trn
  rw [e]
  exact (Ltr.one (by omega) (by omega)).app ((Ltr.flat fun x _ => (Ltr.one (by omega) (by omega)).app (Ltr_cont h)).app (Ltr.one (by omega) (by omega)))
theorem Ltr_out {I : Mem} {m nb nr k : Nat} (hB : BodP I m nb) (hR : RulsP I nr) : Ltr (outL I m nb nr k) := by
  have o : ∀ c, 32 ≤ c → c ≤ 126 → Ltr [c] := fun c h1 h2 => Ltr.one h1 h2
  have hb : Ltr ((List.range nb).flatMap (bodF I m nr)) := Ltr.flat fun s hs => Ltr.flat fun r hr => by
    unfold segF
    split
    · exact Ltr_trn (hB.2.2.2 s hs) (hR.2.2.2 r hr)
    · intro c hc; cases hc
  unfold outL
  exact (o 72 (by omega) (by omega)).app ((o 43 (by omega) (by omega)).app ((Ltr.num _).app ((o 39 (by omega) (by omega)).app (hb.app ((o 84 (by omega) (by omega)).app ((o 43 (by omega) (by omega)).app ((Ltr.num _).app ((o 43 (by omega) (by omega)).app ((Ltr.num _).app (o 39 (by omega) (by omega)))))))))))
theorem Ltr.at {L : List Nat} (h : Ltr L) {i : Nat} (hi : i < L.length) : 32 ≤ L.getD i 0 ∧ L.getD i 0 ≤ 126 := by
  rw [List.getD_eq_getElem?_getD, List.getElem?_eq_getElem hi]
  exact h _ (List.getElem_mem hi)
