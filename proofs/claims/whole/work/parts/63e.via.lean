/-! the reference: viable -/
def BZ (v : Int32) (P : Prop) : Prop := (P ∧ v = 1) ∨ (¬ P ∧ v = 0)
theorem BZ.cg {v : Int32} {P Q : Prop} (h : BZ v P) (hc : P ↔ Q) : BZ v Q := by
  rcases h with ⟨a, b⟩ | ⟨a, b⟩
  · exact Or.inl ⟨hc.mp a, b⟩
  · exact Or.inr ⟨fun h => a (hc.mpr h), b⟩
theorem BZ.f {P : Prop} (h : ¬ P) : BZ 0 P := Or.inr ⟨h, rfl⟩
theorem BZ.t {P : Prop} (h : P) : BZ 1 P := Or.inl ⟨h, rfl⟩
theorem VC.pv {T : Nat → Nat → Nat} {g : Nat → Nat} {n ni ne c p : Nat} (hS : SF T ni ne) (h : VC T g n ne c p) : PV ni c := by
  obtain ⟨e, i, q, many, he, a, b, hq, rfl, hR⟩ := h
  have k := hS.2.2.2.1 e he
  have k0 := hS.1
  have k2 := hS.2.2.1 i (by omega)
  have hm : 1 ≤ many ∧ many ≤ T 2 i := by obtain ⟨s, _, h1, h2, _⟩ := hR; exact ⟨h1, h2⟩
  have hq9 := qq_le (q := q + 1) hS he (by omega)
  right
  omega
theorem rch_PV {T : Nat → Nat → Nat} {g : Nat → Nat} {n ni ne k c : Nat} {eo : Nat → Nat} (hS : SF T ni ne) (hE : EO T ne eo) (hk : k ≤ n) (h : rch T g ne eo k c) : PV ni c := by
  cases k with
  | zero => exact Or.inl h
  | succ k => exact (rch_VC (n := n) hS hE k c (by omega) h).pv hS
theorem hy_n {k x : Nat} (hk : k < 18) (hx : x ≤ 1000) : (1001 : Int32) * nI k + 1001 + nI x = nI (1001 * (k + 1) + x) ∧ inb (nI (1001 * (k + 1) + x)) 19019 = true ∧ (nI (1001 * (k + 1) + x)).toNatClampNeg = 1001 * (k + 1) + x := by
  have h : (1001 : Int32) * nI k = nI (1001 * k) := pk_mul 1001 k
  refine ⟨?_, inb_n (by omega) (by omega), nI_clamp (by omega)⟩
  rw [h, show nI (1001 * k) + 1001 = nI (1001 * k + 1001) from nI_add _ 1001, nI_add]
  congr 1
/-- the targets are marked in the row k + 1 -/
theorem vmark {I : Mem} {l : List Nat} {k n pl : Nat} {x3 : Int32} {P : Prop} {R : Nat → Prop} (hl : TgL I l) (hlen : l.length ≤ 40) (hlt : ∀ x, x ∈ l → x < 1000) (hk : k < 18) (hx : BZ x3 P) (hr : ∀ c, c ≤ 1000 → BZ (I 220 (1001 * (k + 1) + c)) (R c)) :
    ∃ y I', loopF (fun a => m_X12_viable_b118 196 (nI n) (nI k) (nI pl) a.1 a.2.1 a.2.2) FU (x3, (0 : Int32), I) = some (y, I') ∧ BZ y (P ∨ ∃ c, c ∈ l) ∧ (∀ c, c ≤ 1000 → BZ (I' 220 (1001 * (k + 1) + c)) (R c ∨ c ∈ l)) ∧ ∀ a b, ¬ (a = 220 ∧ 1001 * (k + 1) ≤ b) → I' a b = I a b := by
  obtain ⟨b, f1, f2⟩ := loop_run (body := fun a => m_X12_viable_b118 196 (nI n) (nI k) (nI pl) a.1 a.2.1 a.2.2)
    (Inv := fun r a => ∃ x, x ≤ l.length ∧ r = l.length - x ∧ a.2.1 = nI x ∧ BZ a.1 (P ∨ 0 < x) ∧ (∀ c, c ≤ 1000 → BZ (a.2.2 220 (1001 * (k + 1) + c)) (R c ∨ ∃ u, u < x ∧ l.getD u 0 = c)) ∧ ∀ a' b, ¬ (a' = 220 ∧ 1001 * (k + 1) ≤ b) → a.2.2 a' b = I a' b)
    (Post := fun b => BZ b.1 (P ∨ ∃ c, c ∈ l) ∧ (∀ c, c ≤ 1000 → BZ (b.2 220 (1001 * (k + 1) + c)) (R c ∨ c ∈ l)) ∧ ∀ a b', ¬ (a = 220 ∧ 1001 * (k + 1) ≤ b') → b.2 a b' = I a b') (fun r a ⟨x, g1, g2, g3, g4, g5, g6⟩ => by
      obtain ⟨x3, x5, J⟩ := a
      simp only at g3 g4 g5 g6
      subst g3
      have c35 : J 196 35 = nI l.length := by rw [g6 _ _ (by omega), hl.1]
      by_cases z : x = l.length
      · have cc : nI l.length ≤ nI x := nI_le (by omega) (by omega)
        refine Or.inl ⟨(x3, J), by simp only [m_X12_viable_b118, c35, cc, if_true], g4.cg ?_, fun c hc => (g5 c hc).cg ?_, g6⟩
        · constructor
          · rintro (h | h)
            · exact Or.inl h
            · exact Or.inr ⟨_, getD_mem (x := 0) (by omega)⟩
          · rintro (h | ⟨c, h⟩)
            · exact Or.inl h
            · exact Or.inr (by have := List.length_pos_of_mem h; omega)
        · constructor
          · rintro (h | ⟨u, h1, h2⟩)
            · exact Or.inl h
            · exact Or.inr (by rw [← h2]; exact getD_mem (by omega))
          · rintro (h | h)
            · exact Or.inl h
            · obtain ⟨u, hu, e⟩ := List.getElem_of_mem h
              exact Or.inr ⟨u, by omega, by rw [List.getD_eq_getElem?_getD, List.getElem?_eq_getElem hu]; exact e⟩
      · have hx : x < l.length := by omega
        have cc : ¬ nI l.length ≤ nI x := nI_ge hx (by omega)
        have e3 : nI x + 1 = nI (x + 1) := nI_1 x
        have w8 : inb (nI x) 64 = true := inb_n (by omega) (by omega)
        have w9 : (nI x).toNatClampNeg = x := nI_clamp (by omega)
        have tx : J 221 x = nI (l.getD x 0) := by rw [g6 _ _ (by omega), hl.2 x hx]
        have hm := hlt _ (getD_mem hx)
        obtain ⟨a1, a2, a3⟩ := hy_n hk (show l.getD x 0 ≤ 1000 by omega)
        have ok1 : okz 1 = true := by decide
        refine Or.inr ⟨((1 : Int32), nI (x + 1), ms J 220 (1001 * (k + 1) + l.getD x 0) 1), l.length - (x + 1), by omega, by simp only [m_X12_viable_b118, c35, cc, if_false, w8, w9, gd_t, Nat.reduceAdd, tx, a1, a2, a3, ok1, bnd, e3], x + 1, by omega, rfl, rfl, BZ.t (Or.inr (by omega)), fun c hc => ?_, fun a b hab => ?_⟩
        · show BZ (ms J 220 (1001 * (k + 1) + l.getD x 0) 1 220 (1001 * (k + 1) + c)) _
          by_cases o : c = l.getD x 0
          · rw [ms_s rfl (by rw [o])]
            exact BZ.t (Or.inr ⟨x, by omega, o.symm⟩)
          · rw [ms_o (by omega)]
            refine (g5 c hc).cg ?_
            constructor
            · rintro (h | ⟨u, h1, h2⟩)
              · exact Or.inl h
              · exact Or.inr ⟨u, by omega, h2⟩
            · rintro (h | ⟨u, h1, h2⟩)
              · exact Or.inl h
              · by_cases v : u = x
                · subst v; exact absurd h2.symm o
                · exact Or.inr ⟨u, by omega, h2⟩
        · show ms J 220 (1001 * (k + 1) + l.getD x 0) 1 a b = _
          rw [ms_o (by omega), g6 a b hab]) FU l.length (x3, (0 : Int32), I) (by unfold FU; omega)
    ⟨0, by omega, rfl, rfl, hx.cg ⟨fun h => Or.inl h, fun h => h.elim id fun h => absurd h (Nat.lt_irrefl _)⟩, fun c hc => (hr c hc).cg ⟨fun h => Or.inl h, fun h => h.elim id fun ⟨u, h, _⟩ => absurd h (Nat.not_lt_zero _)⟩, fun _ _ _ => rfl⟩
  exact ⟨b.1, b.2, f1, f2⟩
theorem viable_ok {K : Mem} {T : Nat → Nat → Nat} {g : Nat → Nat} {n ni ne : Nat} {eo : Nat → Nat} (hR : MR K T ni ne eo) (hg : GTg K n g) (hn : n ≤ 18) :
    ∃ c K', m_X12_viable 196 (nI n) K = some (nI c, K') ∧ c ≤ n ∧ (∀ c', c' < c → ∃ x, rch T g ne eo (c' + 1) x) ∧ (c < n → ¬ ∃ x, rch T g ne eo (c + 1) x) ∧ FrH K K' := by
  have hS := hR.2.1
  have hE := hR.2.2.1
  have k0 := hS.1
  have ok0 : okz 0 = true := by decide
  have ok1 : okz 1 = true := by decide
  -- the first row
  obtain ⟨K1, a1, a2⟩ := loop_run (body := fun a => m_X12_viable_b2 196 (nI n) a.1 a.2)
    (Inv := fun r a => ∃ pl, pl ≤ 1001 ∧ r = 1001 - pl ∧ a.1 = nI pl ∧ (∀ x, x < pl → BZ (a.2 220 x) (x = 1000)) ∧ FrH K a.2)
    (Post := fun b => (∀ x, x ≤ 1000 → BZ (b 220 x) (x = 1000)) ∧ FrH K b) (fun r a ⟨pl, h1, h2, h3, h4, h5⟩ => by
      obtain ⟨x2, J⟩ := a
      simp only at h3 h4 h5
      subst h3
      by_cases y : pl = 1001
      · subst y
        have cc : (1000 : Int32) < nI 1001 := nI_lt (a := 1000) (by omega) (by omega)
        exact Or.inl ⟨J, by simp only [m_X12_viable_b2, cc, if_true], fun x hx => h4 x (by omega), h5⟩
      · have cc : ¬ (1000 : Int32) < nI pl := nI_nlt (a := 1000) (b := pl) (by omega) (by omega)
        have w8 : inb (nI pl) 19019 = true := inb_n (by omega) (by omega)
        have w9 : (nI pl).toNatClampNeg = pl := nI_clamp (by omega)
        have e3 : nI pl + 1 = nI (pl + 1) := nI_1 pl
        have fin : ∀ v, BZ v (pl = 1000) → okz v = true → m_X12_viable_b2 196 (nI n) (nI pl) J = m_X12_viable_j26 196 (nI n) (nI pl) 220 (nI pl) v J → ∃ a' n', n' < r ∧ m_X12_viable_b2 196 (nI n) (nI pl) J = some (.inl a') ∧ ∃ pl, pl ≤ 1001 ∧ n' = 1001 - pl ∧ a'.1 = nI pl ∧ (∀ x, x < pl → BZ (a'.2 220 x) (x = 1000)) ∧ FrH K a'.2 := fun v hv hz hb => by
          rw [hb]
          refine ⟨(nI (pl + 1), ms J 220 pl v), 1001 - (pl + 1), by omega, by simp only [m_X12_viable_j26, w8, w9, gd_t, hz, bnd, e3], pl + 1, by omega, rfl, rfl, fun x hx => ?_, fun a b p q s => ?_⟩
          · show BZ (ms J 220 pl v 220 x) _
            by_cases o : x = pl
            · subst o
              rw [ms_s rfl rfl]
              exact hv
            · rw [ms_o (by omega)]
              exact h4 x (by omega)
          · show ms J 220 pl v a b = _
            rw [ms_o (by omega), h5 a b p q s]
        by_cases o : pl = 1000
        · have o' : nI pl = 1000 := by rw [o]; rfl
          exact Or.inr (fin 1 (BZ.t o) ok1 (by simp only [m_X12_viable_b2, cc, if_false, if_pos o', Nat.reduceAdd]))
        · have o' : ¬ nI pl = 1000 := fun h => o ((nI_eq (b := 1000) (by omega) (by omega)).mp h)
          exact Or.inr (fin 0 (BZ.f o) ok0 (by simp only [m_X12_viable_b2, cc, if_false, if_neg o', Nat.reduceAdd]))) FU 1001 ((0 : Int32), K) (by unfold FU; omega)
    ⟨0, by omega, rfl, rfl, fun x hx => absurd hx (Nat.not_lt_zero _), FrH.rf⟩
  obtain ⟨a2, a3⟩ := a2
  obtain ⟨b, f1, f2⟩ := loop_run (body := fun a => m_X12_viable_b35 196 (nI n) a.1 a.2)
    (Inv := fun r a => ∃ k, k ≤ n ∧ r = n - k ∧ a.1 = nI k ∧ (∀ x, x ≤ 1000 → BZ (a.2 220 (1001 * k + x)) (rch T g ne eo k x)) ∧ (∀ c', c' < k → ∃ x, rch T g ne eo (c' + 1) x) ∧ FrH K a.2)
    (Post := fun b => ∃ c, b.1 = nI c ∧ c ≤ n ∧ (∀ c', c' < c → ∃ x, rch T g ne eo (c' + 1) x) ∧ (c < n → ¬ ∃ x, rch T g ne eo (c + 1) x) ∧ FrH K b.2) (fun r a ⟨k, g1, g2, g3, g4, g5, g6⟩ => by
      obtain ⟨x2, I⟩ := a
      simp only at g3 g4 g6
      subst g3
      by_cases z : k = n
      · subst z
        have cc : nI k ≤ nI k := nI_le (by omega) (by omega)
        exact Or.inl ⟨(nI k, I), by simp only [m_X12_viable_b35, cc, if_true], k, rfl, by omega, g5, fun h => absurd h (Nat.lt_irrefl _), g6⟩
      · have hkn : k < n := by omega
        have cc : ¬ nI n ≤ nI k := nI_ge hkn (by omega)
        -- the row k + 1 is emptied
        obtain ⟨I1, b1, b2⟩ := loop_run (body := fun a => m_X12_viable_b42 196 (nI n) (nI k) a.1 a.2)
          (Inv := fun r a => ∃ pl, pl ≤ 1001 ∧ r = 1001 - pl ∧ a.1 = nI pl ∧ (∀ x, x < pl → a.2 220 (1001 * (k + 1) + x) = 0) ∧ ∀ a' b', ¬ (a' = 220 ∧ 1001 * (k + 1) ≤ b') → a.2 a' b' = I a' b')
          (Post := fun b => (∀ x, x ≤ 1000 → b 220 (1001 * (k + 1) + x) = 0) ∧ ∀ a' b', ¬ (a' = 220 ∧ 1001 * (k + 1) ≤ b') → b a' b' = I a' b') (fun r a ⟨pl, h1, h2, h3, h4, h5⟩ => by
            obtain ⟨x3, J⟩ := a
            simp only at h3 h4 h5
            subst h3
            by_cases y : pl = 1001
            · subst y
              have cc : (1000 : Int32) < nI 1001 := nI_lt (a := 1000) (by omega) (by omega)
              exact Or.inl ⟨J, by simp only [m_X12_viable_b42, cc, if_true], fun x hx => h4 x (by omega), h5⟩
            · have cc : ¬ (1000 : Int32) < nI pl := nI_nlt (a := 1000) (b := pl) (by omega) (by omega)
              obtain ⟨c1, c2, c3⟩ := hy_n (k := k) (x := pl) (by omega) (by omega)
              have e3 : nI pl + 1 = nI (pl + 1) := nI_1 pl
              refine Or.inr ⟨(nI (pl + 1), ms J 220 (1001 * (k + 1) + pl) 0), 1001 - (pl + 1), by omega, by simp only [m_X12_viable_b42, cc, if_false, c1, c2, c3, gd_t, ok0, Nat.reduceAdd, bnd, e3], pl + 1, by omega, rfl, rfl, fun x hx => ?_, fun a b p => ?_⟩
              · show ms J 220 (1001 * (k + 1) + pl) 0 220 (1001 * (k + 1) + x) = 0
                by_cases o : x = pl
                · subst o
                  rw [ms_s rfl rfl]
                · rw [ms_o (by omega)]
                  exact h4 x (by omega)
              · show ms J 220 (1001 * (k + 1) + pl) 0 a b = _
                rw [ms_o (by omega), h5 a b p]) FU 1001 ((0 : Int32), I) (by unfold FU; omega)
          ⟨0, by omega, rfl, rfl, fun x hx => absurd hx (Nat.not_lt_zero _), fun _ _ _ => rfl⟩
        obtain ⟨b2, b3⟩ := b2
        have hR1 : FrH K I1 := fun a b p q s => by rw [b3 a b (by omega), g6 a b p q s]
        -- the row k + 1 is filled
        obtain ⟨o, d1, d2⟩ := loop_run (body := fun a => m_X12_viable_b77 196 (nI n) (nI k) a.1 a.2.1 a.2.2)
          (Inv := fun r a => ∃ pl, pl ≤ 1001 ∧ r = 1001 - pl ∧ a.2.1 = nI pl ∧ BZ a.1 (∃ c pl', pl' < pl ∧ rch T g ne eo k pl' ∧ c ∈ ldc T ne eo pl' (g k)) ∧ (∀ c, c ≤ 1000 → BZ (a.2.2 220 (1001 * (k + 1) + c)) (∃ pl', pl' < pl ∧ rch T g ne eo k pl' ∧ c ∈ ldc T ne eo pl' (g k))) ∧ (∀ x, x ≤ 1000 → BZ (a.2.2 220 (1001 * k + x)) (rch T g ne eo k x)) ∧ FrH K a.2.2)
          (Post := fun b => BZ b.1 (∃ c, rch T g ne eo (k + 1) c) ∧ (∀ c, c ≤ 1000 → BZ (b.2 220 (1001 * (k + 1) + c)) (rch T g ne eo (k + 1) c)) ∧ FrH K b.2) (fun r a ⟨pl, h1, h2, h3, h4, h5, h6, h7⟩ => by
            obtain ⟨x3, x4, J⟩ := a
            simp only at h3 h4 h5 h6 h7
            subst h3
            by_cases y : pl = 1001
            · subst y
              have cc : (1000 : Int32) < nI 1001 := nI_lt (a := 1000) (by omega) (by omega)
              have eqv : ∀ c, (∃ pl', pl' < 1001 ∧ rch T g ne eo k pl' ∧ c ∈ ldc T ne eo pl' (g k)) ↔ rch T g ne eo (k + 1) c := fun c => by
                constructor
                · rintro ⟨pl', _, a, b⟩; exact ⟨pl', a, b⟩
                · rintro ⟨pl', a, b⟩
                  have := rch_PV (n := n) hS hE (by omega) a
                  exact ⟨pl', by rcases this with h | h <;> omega, a, b⟩
              refine Or.inl ⟨(x3, J), by simp only [m_X12_viable_b77, cc, if_true], h4.cg ⟨fun ⟨c, h⟩ => ⟨c, (eqv c).mp h⟩, fun ⟨c, h⟩ => ⟨c, (eqv c).mpr h⟩⟩, fun c hc => (h5 c hc).cg (eqv c), h7⟩
            · have cc : ¬ (1000 : Int32) < nI pl := nI_nlt (a := 1000) (b := pl) (by omega) (by omega)
              obtain ⟨c1, c2, c3⟩ := hx_n (k := k) (x := pl) (by omega) (by omega)
              have e3 : nI pl + 1 = nI (pl + 1) := nI_1 pl
              rcases h6 pl (by omega) with ⟨q1, q2⟩ | ⟨q1, q2⟩
              · have o10 : ¬ (1 : Int32) = 0 := by decide
                have w5 : nI k + 1 = nI (k + 1) := nI_1 k
                have w6 : inb (nI (k + 1)) 20 = true := inb_n (by omega) (by omega)
                have w7 : (nI (k + 1)).toNatClampNeg = k + 1 := nI_clamp (by omega)
                obtain ⟨t1, t2⟩ := hg.fr h7.k k hkn
                have hp := rch_PV (n := n) hS hE (by omega) q1
                obtain ⟨J2, p1, p2, p3, p4⟩ := leads_ok (hR.fr h7.k) hp t2
                obtain ⟨v, J3, u1, u2, u3, u4⟩ := vmark (n := n) (pl := pl) p2 p4 (fun x hx => ldc_lt (hR.fr h7.k) hp hx) (show k < 18 by omega) h4 (fun c hc => by rw [p3 _ _ (by omega) (by omega)]; exact h5 c hc)
                have fJ : FrH K J3 := fun a b p q s => by rw [u4 a b (by omega), p3 a b p s, h7 a b p q s]
                refine Or.inr ⟨(v, nI (pl + 1), J3), 1001 - (pl + 1), by omega, by simp only [m_X12_viable_b77, cc, if_false, c1, c2, c3, gd_t, Nat.reduceAdd, q2, o10, w5, w6, w7, t1, p1, Option.bind_some, u1, m_X12_viable_j158, e3], pl + 1, by omega, rfl, rfl, u2.cg ?_, fun c hc => (u3 c hc).cg ?_, fun x hx => ?_, fJ⟩
                · constructor
                  · rintro (⟨c, pl', a, b⟩ | ⟨c, h⟩)
                    · exact ⟨c, pl', by omega, b⟩
                    · exact ⟨c, pl, by omega, q1, h⟩
                  · rintro ⟨c, pl', a, b, h⟩
                    by_cases o : pl' = pl
                    · subst o; exact Or.inr ⟨c, h⟩
                    · exact Or.inl ⟨c, pl', by omega, b, h⟩
                · constructor
                  · rintro (⟨pl', a, b⟩ | h)
                    · exact ⟨pl', by omega, b⟩
                    · exact ⟨pl, by omega, q1, h⟩
                  · rintro ⟨pl', a, b, h⟩
                    by_cases o : pl' = pl
                    · subst o; exact Or.inr h
                    · exact Or.inl ⟨pl', by omega, b, h⟩
                · show BZ (J3 220 (1001 * k + x)) _
                  rw [u4 _ _ (by omega), p3 _ _ (by omega) (by omega)]
                  exact h6 x hx
              · refine Or.inr ⟨(x3, nI (pl + 1), J), 1001 - (pl + 1), by omega, by simp only [m_X12_viable_b77, cc, if_false, c1, c2, c3, gd_t, Nat.reduceAdd, q2, if_true, m_X12_viable_j158, e3], pl + 1, by omega, rfl, rfl, h4.cg ?_, fun c hc => (h5 c hc).cg ?_, h6, h7⟩
                · constructor
                  · rintro ⟨c, pl', a, b⟩; exact ⟨c, pl', by omega, b⟩
                  · rintro ⟨c, pl', a, b, h⟩
                    by_cases o : pl' = pl
                    · subst o; exact absurd b q1
                    · exact ⟨c, pl', by omega, b, h⟩
                · constructor
                  · rintro ⟨pl', a, b⟩; exact ⟨pl', by omega, b⟩
                  · rintro ⟨pl', a, b, h⟩
                    by_cases o : pl' = pl
                    · subst o; exact absurd b q1
                    · exact ⟨pl', by omega, b, h⟩) FU 1001 ((0 : Int32), (0 : Int32), I1) (by unfold FU; omega)
          ⟨0, by omega, rfl, rfl, BZ.f fun ⟨c, pl', h, _⟩ => absurd h (Nat.not_lt_zero _), fun c hc => by show BZ (I1 220 (1001 * (k + 1) + c)) _; rw [b2 c hc]; exact BZ.f fun ⟨pl', h, _⟩ => absurd h (Nat.not_lt_zero _), fun x hx => by show BZ (I1 220 (1001 * k + x)) _; rw [b3 _ _ (by omega)]; exact g4 x hx, hR1⟩
        obtain ⟨d2, d3, d4⟩ := d2
        rcases d2 with ⟨q1, q2⟩ | ⟨q1, q2⟩
        · have o10 : ¬ (1 : Int32) = 0 := by decide
          have e3 : nI k + 1 = nI (k + 1) := nI_1 k
          refine Or.inr ⟨(nI (k + 1), o.2), n - (k + 1), by omega, by simp only [m_X12_viable_b35, cc, if_false, b1, Option.bind_some, d1, q2, o10, e3], k + 1, by omega, rfl, rfl, d3, fun c' hc => ?_, d4⟩
          by_cases v : c' = k
          · subst v; exact q1
          · exact g5 c' (by omega)
        · exact Or.inl ⟨(nI k, o.2), by simp only [m_X12_viable_b35, cc, if_false, b1, Option.bind_some, d1, q2, if_true], k, rfl, by omega, g5, fun _ => q1, d4⟩) FU n ((0 : Int32), K1) (by unfold FU; omega)
    ⟨0, by omega, rfl, rfl, fun x hx => by rw [Nat.mul_zero, Nat.zero_add]; exact (a2 x hx).cg Iff.rfl, fun c' h => absurd h (Nat.not_lt_zero _), a3⟩
  obtain ⟨c, f2, f3, f4, f5, f6⟩ := f2
  exact ⟨c, b.2, by simp only [m_X12_viable, a1, Option.bind_some, f1]; rw [← f2], f3, f4, f5, f6⟩
