/-! the reference: the way that is taken -/
theorem find_ix {F : Nat → Bool} {y : Nat} : ∀ l : List Nat, l.find? F = some y → ∃ x, x < l.length ∧ l.getD x 0 = y ∧ F y = true ∧ ∀ u, u < x → F (l.getD u 0) = false := by
  intro l
  induction l with
  | nil => intro h; simp at h
  | cons a l ih =>
    intro h
    cases q : F a with
    | true =>
      rw [List.find?_cons_of_pos q] at h
      cases h
      exact ⟨0, by simp, rfl, q, fun u hu => absurd hu (Nat.not_lt_zero _)⟩
    | false =>
      rw [List.find?_cons_of_neg (by simp [q])] at h
      obtain ⟨x, h1, h2, h3, h4⟩ := ih h
      refine ⟨x + 1, by simp; omega, by simpa using h2, h3, fun u hu => ?_⟩
      cases u with
      | zero => simpa using q
      | succ u => have := h4 u (by omega); simpa using this
theorem pth_rch {T : Nat → Nat → Nat} {g : Nat → Nat} {n ni ne : Nat} {eo : Nat → Nat} (h0 : hop T g n ni ne eo n 1000 = true) : ∀ k, k ≤ n → rch T g ne eo k (pth T g n ni ne eo k) := by
  intro k
  induction k with
  | zero => intro _; rfl
  | succ k ih =>
    intro hk
    have h := (pth_ok h0 k (by omega)).2 (by omega)
    exact ⟨_, ih (by omega), List.mem_of_find?_eq_some h⟩
theorem way_ok {K : Mem} {T : Nat → Nat → Nat} {g : Nat → Nat} {n ni ne : Nat} {eo : Nat → Nat} (hR : MR K T ni ne eo) (hg : GTg K n g) (hn : n ≤ 18) (hT : ∀ k, k ≤ n → HT K k (hop T g n ni ne eo (n - k))) (h0 : hop T g n ni ne eo n 1000 = true) :
    ∃ K', loopF (fun a => m_X12_matches_b60 196 (nI n) a.1 a.2.1 a.2.2) FU ((1000 : Int32), (0 : Int32), K) = some K' ∧ (∀ s, s < n → K' 218 s = nI (pth T g n ni ne eo (s + 1) / 100) ∧ K' 219 s = nI (pth T g n ni ne eo (s + 1) / 10 % 10)) ∧ FrK K K' := by
  have hS := hR.2.1
  have hE := hR.2.2.1
  obtain ⟨b, f1, f2⟩ := loop_run (body := fun a => m_X12_matches_b60 196 (nI n) a.1 a.2.1 a.2.2)
    (Inv := fun r a => ∃ k, k ≤ n ∧ r = n - k ∧ a.2.1 = nI k ∧ a.1 = nI (pth T g n ni ne eo k) ∧ (∀ s, s < k → a.2.2 218 s = nI (pth T g n ni ne eo (s + 1) / 100) ∧ a.2.2 219 s = nI (pth T g n ni ne eo (s + 1) / 10 % 10)) ∧ FrK K a.2.2 ∧ ∀ x, a.2.2 220 x = K 220 x)
    (Post := fun b => (∀ s, s < n → b 218 s = nI (pth T g n ni ne eo (s + 1) / 100) ∧ b 219 s = nI (pth T g n ni ne eo (s + 1) / 10 % 10)) ∧ FrK K b) (fun r a ⟨k, g1, g2, g3, g4, g5, g6, g7⟩ => by
      obtain ⟨x1, x3, I⟩ := a
      simp only at g3 g4 g5 g6 g7
      subst g3
      subst g4
      by_cases z : k = n
      · subst z
        have cc : nI k ≤ nI k := nI_le (by omega) (by omega)
        exact Or.inl ⟨I, by simp only [m_X12_matches_b60, cc, if_true], g5, g6⟩
      · have hkn : k < n := by omega
        have cc : ¬ nI n ≤ nI k := nI_ge hkn (by omega)
        have hRI := hR.fr g6
        obtain ⟨t1, t2⟩ := hg.fr g6 k hkn
        have hp := rch_PV (n := n) hS hE (by omega) (pth_rch h0 k (by omega))
        obtain ⟨J, p1, p2, p3, p4⟩ := leads_ok hRI hp t2
        obtain ⟨ix, i1, i2, i3, i4⟩ := find_ix _ ((pth_ok h0 k (by omega)).2 hkn)
        have hlt : ∀ u, u < (ldc T ne eo (pth T g n ni ne eo k) (g k)).length → (ldc T ne eo (pth T g n ni ne eo k) (g k)).getD u 0 < 1000 := fun u hu => ldc_lt hRI hp (getD_mem hu)
        have hJ : ∀ x, x ≤ 1000 → J 220 (1001 * (k + 1) + x) = bz (hop T g n ni ne eo (n - (k + 1)) x) := fun x hx => by rw [p3 _ _ (by omega) (by omega), g7]; exact hT (k + 1) (by omega) x hx
        obtain ⟨c, u1, u2⟩ := loop_run (body := fun a => m_X12_matches_b81 196 (nI n) (nI k) a J)
          (Inv := fun r a => ∃ x, x ≤ ix ∧ r = ix - x ∧ a = nI x) (Post := fun b => b = nI ix) (fun r a ⟨x, h1, h2, h3⟩ => by
            subst h3
            have w8 : inb (nI x) 64 = true := inb_n (by omega) (by omega)
            have w9 : (nI x).toNatClampNeg = x := nI_clamp (by omega)
            have tx := p2.2 x (by omega)
            have hm := hlt x (by omega)
            obtain ⟨a1, a2, a3⟩ := hy_n (k := k) (by omega) (show (ldc T ne eo (pth T g n ni ne eo k) (g k)).getD x 0 ≤ 1000 by omega)
            have hv := hJ _ (show (ldc T ne eo (pth T g n ni ne eo k) (g k)).getD x 0 ≤ 1000 by omega)
            by_cases y : x = ix
            · subst y
              have o10 : ¬ (1 : Int32) = 0 := by decide
              rw [i2, i3, bz_t] at hv
              rw [i2] at a1 a2 a3 tx
              exact Or.inl ⟨nI x, by simp only [m_X12_matches_b81, w8, w9, gd_t, Nat.reduceAdd, tx, a1, a2, a3, hv, o10, if_false], rfl⟩
            · have e3 : nI x + 1 = nI (x + 1) := nI_1 x
              rw [i4 x (by omega), bz_f] at hv
              exact Or.inr ⟨nI (x + 1), ix - (x + 1), by omega, by simp only [m_X12_matches_b81, w8, w9, gd_t, Nat.reduceAdd, tx, a1, a2, a3, hv, if_true, e3], x + 1, by omega, rfl, rfl⟩) FU ix (0 : Int32) (by unfold FU; omega) ⟨0, by omega, rfl, rfl⟩
        subst u2
        have tx := p2.2 ix i1
        rw [i2] at tx
        have hm := hlt ix i1
        rw [i2] at hm
        obtain ⟨d1, d2, d3⟩ := code_n hm
        have w8 : inb (nI ix) 64 = true := inb_n (by omega) (by omega)
        have w9 : (nI ix).toNatClampNeg = ix := nI_clamp (by omega)
        have w5 : nI k + 1 = nI (k + 1) := nI_1 k
        have w6 : inb (nI (k + 1)) 20 = true := inb_n (by omega) (by omega)
        have w7 : (nI (k + 1)).toNatClampNeg = k + 1 := nI_clamp (by omega)
        have v8 : inb (nI k) 20 = true := inb_n (by omega) (by omega)
        have v9 : (nI k).toNatClampNeg = k := nI_clamp (by omega)
        refine Or.inr ⟨(nI (pth T g n ni ne eo (k + 1)), nI (k + 1), ms (ms J 218 k (nI (pth T g n ni ne eo (k + 1) / 100))) 219 k (nI (pth T g n ni ne eo (k + 1) / 10 % 10))), n - (k + 1), by omega, ?_, k + 1, by omega, rfl, rfl, rfl, fun s hs => ?_, fun a b h1 h2 => ?_, fun x => ?_⟩
        · simp only [m_X12_matches_b60, cc, if_false, w5, w6, w7, gd_t, Nat.reduceAdd, t1, p1, Option.bind_some, u1, w8, w9, v8, v9, tx, d1, d3, bnd]
        · dsimp only
          by_cases y : s = k
          · subst y
            rw [ms_o (by omega), ms_s rfl rfl, ms_s rfl rfl]
            exact ⟨rfl, rfl⟩
          · rw [ms_o (by omega), ms_o (by omega), ms_o (by omega), ms_o (by omega), p3 _ _ (by omega) (by omega), p3 _ _ (by omega) (by omega)]
            exact g5 s (by omega)
        · dsimp only
          rw [ms_o (by omega), ms_o (by omega), p3.k a b h1 h2, g6 a b h1 h2]
        · dsimp only
          rw [ms_o (by omega), ms_o (by omega), p3 _ _ (by omega) (by omega), g7]) FU n ((1000 : Int32), (0 : Int32), K) (by unfold FU; omega)
    ⟨0, by omega, rfl, rfl, rfl, fun s hs => absurd hs (Nat.not_lt_zero _), FrK.rf, fun _ => rfl⟩
  exact ⟨b, f1, f2⟩
