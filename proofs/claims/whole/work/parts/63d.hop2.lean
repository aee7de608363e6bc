/-! the reference: the table of hopes -/
def FrH (K K' : Mem) : Prop := ∀ a b, ¬ (a = 196 ∧ b = 35) → a ≠ 220 → a ≠ 221 → K' a b = K a b
theorem FrH.tr {A B C : Mem} (h : FrH A B) (h2 : FrH B C) : FrH A C := fun a b x y z => (h2 a b x y z).trans (h a b x y z)
theorem FrH.rf {A : Mem} : FrH A A := fun _ _ _ _ _ => rfl
theorem FrL.h {A B : Mem} (h : FrL A B) : FrH A B := fun a b x _ z => h a b x z
theorem FrH.k {A B : Mem} (h : FrH A B) : FrK A B := fun a b x y => h a b x (by omega) (by omega)
def vld (ni k pl : Nat) : Bool := if pl = 1000 then decide (k = 0) else decide (0 < pl % 10 ∧ pl / 100 < ni)
theorem hop_eq {T : Nat → Nat → Nat} {g : Nat → Nat} {n ni ne k pl : Nat} {eo : Nat → Nat} (hk : k ≤ n) : hop T g n ni ne eo (n - k) pl = (vld ni k pl && (if k = n then (if pl = 1000 then skA T ne ne else cde T ne (eo (pl / 100)) (pl / 100) (pl / 10 % 10) (pl % 10)) else (ldc T ne eo pl (g k)).any (hop T g n ni ne eo (n - (k + 1))))) := by
  by_cases z : k = n
  · subst z
    rw [Nat.sub_self, if_pos rfl]
    unfold vld
    by_cases y : pl = 1000 <;> simp [hop, y]
  · rw [if_neg z]
    obtain ⟨r, hr⟩ : ∃ r, n - k = r + 1 := ⟨n - k - 1, by omega⟩
    rw [hr, show n - (k + 1) = r by omega]
    unfold vld
    have e : decide (n = r + 1) = decide (k = 0) := decide_eq_decide.mpr (by omega)
    simp only [hop, e]
    rw [show n - (r + 1) = k by omega]
def GTg (K : Mem) (n : Nat) (g : Nat → Nat) : Prop := ∀ k, k < n → K 210 (k + 1) = nI (g k) ∧ g k < 65536
theorem GTg.fr {K K' : Mem} {n : Nat} {g : Nat → Nat} (h : GTg K n g) (hf : FrK K K') : GTg K' n g := fun k hk => by
  rw [hf _ _ (by omega) (by omega)]
  exact h k hk
theorem hop_st {I : Mem} {T : Nat → Nat → Nat} {g : Nat → Nat} {n ni ne k pl : Nat} {eo : Nat → Nat} (hR : MR I T ni ne eo) (hg : GTg I n g) (hn : n ≤ 18) (hk : k ≤ n) (hpl : pl ≤ 1000) (hT : k < n → HT I (k + 1) (hop T g n ni ne eo (n - (k + 1)))) :
    ∃ I2, m_X12_hopes_b8 196 (nI n) (nI k) (nI pl) I = some (.inl (nI (pl + 1), ms I2 220 (1001 * k + pl) (bz (hop T g n ni ne eo (n - k) pl)))) ∧ FrL I I2 := by
  have hS := hR.2.1
  have k0 := hS.1
  have cc : ¬ (1000 : Int32) < nI pl := nI_nlt (a := 1000) (b := pl) (by omega) (by omega)
  obtain ⟨a1, a2, a3⟩ := hx_n (k := k) (x := pl) (by omega) hpl
  have e3 : nI pl + 1 = nI (pl + 1) := nI_1 pl
  -- the store
  have sto : ∀ (J : Mem) (v : Bool), m_X12_hopes_j106 196 (nI n) (nI k) (nI pl) (bz v) J = some (.inl (nI (pl + 1), ms J 220 (1001 * k + pl) (bz v))) := fun J v => by
    simp only [m_X12_hopes_j106, a1, a2, a3, gd_t, okz_bz, Nat.reduceAdd, bnd, e3]
  have no : vld ni k pl = false → m_X12_hopes_b8 196 (nI n) (nI k) (nI pl) I = m_X12_hopes_j57 196 (nI n) (nI k) (nI pl) 0 I → ∃ I2, m_X12_hopes_b8 196 (nI n) (nI k) (nI pl) I = some (.inl (nI (pl + 1), ms I2 220 (1001 * k + pl) (bz (hop T g n ni ne eo (n - k) pl)))) ∧ FrL I I2 := fun hv hb => by
    refine ⟨I, ?_, FrL.rf⟩
    rw [hb, hop_eq hk, hv, Bool.false_and]
    have := sto I false
    rw [bz_f] at this
    simp only [m_X12_hopes_j57, m_X12_hopes_j79, if_true, this, bz_f]
  have yes : vld ni k pl = true → PV ni pl → m_X12_hopes_b8 196 (nI n) (nI k) (nI pl) I = m_X12_hopes_j57 196 (nI n) (nI k) (nI pl) 1 I → ∃ I2, m_X12_hopes_b8 196 (nI n) (nI k) (nI pl) I = some (.inl (nI (pl + 1), ms I2 220 (1001 * k + pl) (bz (hop T g n ni ne eo (n - k) pl)))) ∧ FrL I I2 := fun hv hp hb => by
    have o10 : ¬ (1 : Int32) = 0 := by decide
    rw [hb, hop_eq hk, hv, Bool.true_and]
    by_cases z : k = n
    · have z' : nI k = nI n := by rw [z]
      rw [if_pos z]
      exact ⟨I, by simp only [m_X12_hopes_j57, o10, if_false, if_pos z', canEnd_ok hR hp, Option.bind_some, sto], FrL.rf⟩
    · have z' : ¬ nI k = nI n := fun h => z ((nI_eq (by omega) (by omega)).mp h)
      rw [if_neg z]
      have w5 : nI k + 1 = nI (k + 1) := nI_1 k
      have w6 : inb (nI (k + 1)) 20 = true := inb_n (by omega) (by omega)
      have w7 : (nI (k + 1)).toNatClampNeg = k + 1 := nI_clamp (by omega)
      obtain ⟨h1, h2⟩ := hg k (by omega)
      obtain ⟨I2, p1, p2, p3, p4⟩ := leads_ok hR hp h2
      have hT2 : HT I2 (k + 1) (hop T g n ni ne eo (n - (k + 1))) := fun x hx => by rw [p3 _ _ (by omega) (by omega)]; exact hT (by omega) x hx
      have s := isSome_ok p2 hT2 (by omega) p4 (fun x hx => ldc_lt hR hp hx)
      exact ⟨I2, by simp only [m_X12_hopes_j57, o10, if_false, if_neg z', m_X12_hopes_j79, w5, w6, w7, gd_t, Nat.reduceAdd, h1, p1, Option.bind_some, s, sto], p3⟩
  by_cases x : pl = 1000
  · have x' : nI pl = 1000 := by rw [x]; rfl
    by_cases y : k = 0
    · have y' : nI k = 0 := by rw [y]; rfl
      exact yes (by unfold vld; rw [if_pos x, decide_eq_true y]) (Or.inl x) (by simp only [m_X12_hopes_b8, cc, if_false, if_pos x', if_pos y'])
    · have y' : ¬ nI k = 0 := nI_ne0 (by omega) (by omega)
      exact no (by unfold vld; rw [if_pos x, decide_eq_false y]) (by simp only [m_X12_hopes_b8, cc, if_false, if_pos x', if_neg y'])
  · have x' : ¬ nI pl = 1000 := fun h => x ((nI_eq (b := 1000) (by omega) (by omega)).mp h)
    obtain ⟨d1, d2, d3⟩ := code_n (show pl < 1000 by omega)
    by_cases y : 0 < pl % 10
    · have y' : ¬ nI (pl % 10) ≤ 0 := nI_nle y (by omega)
      have c4 : I 196 4 = nI ni := hR.1.1
      by_cases u : pl / 100 < ni
      · have u' : ¬ nI ni ≤ nI (pl / 100) := nI_ge u (by omega)
        exact yes (by unfold vld; rw [if_neg x, decide_eq_true ⟨y, u⟩]) (Or.inr ⟨by omega, u⟩) (by simp only [m_X12_hopes_b8, cc, if_false, if_neg x', d2, y', c4, d1, u'])
      · have u' : nI ni ≤ nI (pl / 100) := nI_le (by omega) (by omega)
        exact no (by unfold vld; rw [if_neg x, decide_eq_false (fun h => u h.2)]) (by simp only [m_X12_hopes_b8, cc, if_false, if_neg x', d2, y', c4, d1, u', if_true, m_X12_hopes_j56])
    · have y' : nI (pl % 10) ≤ 0 := nI_le (b := 0) (by omega) (by omega)
      exact no (by unfold vld; rw [if_neg x, decide_eq_false (fun h => y h.1)]) (by simp only [m_X12_hopes_b8, cc, if_false, if_neg x', d2, y', if_true, m_X12_hopes_j56])
theorem hopes_ok {K : Mem} {T : Nat → Nat → Nat} {g : Nat → Nat} {n ni ne : Nat} {eo : Nat → Nat} (hR : MR K T ni ne eo) (hg : GTg K n g) (hn : n ≤ 18) :
    ∃ K', m_X12_hopes 196 (nI n) K = some K' ∧ (∀ k, k ≤ n → HT K' k (hop T g n ni ne eo (n - k))) ∧ FrH K K' := by
  obtain ⟨b, f1, f2⟩ := loop_run (body := fun a => m_X12_hopes_b2 196 (nI n) a.1 a.2)
    (Inv := fun r a => ∃ k, k ≤ n + 1 ∧ r = k ∧ a.1 = nI k - 1 ∧ (∀ k', k ≤ k' → k' ≤ n → HT a.2 k' (hop T g n ni ne eo (n - k'))) ∧ FrH K a.2)
    (Post := fun b => (∀ k, k ≤ n → HT b k (hop T g n ni ne eo (n - k))) ∧ FrH K b) (fun r a ⟨k, g1, g2, g3, g4, g5⟩ => by
      obtain ⟨x2, I⟩ := a
      simp only at g3 g4 g5
      subst g3
      by_cases z : k = 0
      · have c : nI k - 1 < 0 := (pm_0 (by omega)).mpr z
        exact Or.inl ⟨I, by simp only [m_X12_hopes_b2, c, if_true], fun k' hk' => g4 k' (by omega) hk', g5⟩
      · obtain ⟨u, rfl⟩ : ∃ u, k = u + 1 := ⟨k - 1, by omega⟩
        rw [nI_pred]
        have c : ¬ nI u < 0 := nI_pos (by omega)
        obtain ⟨b, v1, v2⟩ := loop_run (body := fun a => m_X12_hopes_b8 196 (nI n) (nI u) a.1 a.2)
          (Inv := fun r a => ∃ pl, pl ≤ 1001 ∧ r = 1001 - pl ∧ a.1 = nI pl ∧ (∀ x, x < pl → a.2 220 (1001 * u + x) = bz (hop T g n ni ne eo (n - u) x)) ∧ (∀ k', u + 1 ≤ k' → k' ≤ n → HT a.2 k' (hop T g n ni ne eo (n - k'))) ∧ FrH K a.2)
          (Post := fun b => (∀ k', u ≤ k' → k' ≤ n → HT b k' (hop T g n ni ne eo (n - k'))) ∧ FrH K b) (fun r a ⟨pl, h1, h2, h3, h4, h5, h6⟩ => by
            obtain ⟨x3, J⟩ := a
            simp only at h3 h4 h5 h6
            subst h3
            by_cases y : pl = 1001
            · subst y
              have cc : (1000 : Int32) < nI 1001 := nI_lt (a := 1000) (by omega) (by omega)
              refine Or.inl ⟨J, by simp only [m_X12_hopes_b8, cc, if_true], fun k' a b => ?_, h6⟩
              by_cases o : k' = u
              · subst o
                exact fun x hx => h4 x (by omega)
              · exact h5 k' (by omega) b
            · obtain ⟨I2, p1, p2⟩ := hop_st (k := u) (pl := pl) (hR.fr h6.k) (hg.fr h6.k) hn (by omega) (by omega) (fun hu => h5 (u + 1) (by omega) (by omega))
              refine Or.inr ⟨(nI (pl + 1), ms I2 220 (1001 * u + pl) (bz (hop T g n ni ne eo (n - u) pl))), 1001 - (pl + 1), by omega, p1, pl + 1, by omega, rfl, rfl, fun x hx => ?_, fun k' a b x hx => ?_, fun a b h1 h2 h3 => ?_⟩
              · show ms I2 220 (1001 * u + pl) _ 220 (1001 * u + x) = _
                by_cases o : x = pl
                · subst o
                  rw [ms_s rfl rfl]
                · rw [ms_o (by omega), p2 _ _ (by omega) (by omega)]
                  exact h4 x (by omega)
              · show ms I2 220 (1001 * u + pl) _ 220 (1001 * k' + x) = _
                rw [ms_o (by omega), p2 _ _ (by omega) (by omega)]
                exact h5 k' a b x hx
              · show ms I2 220 (1001 * u + pl) _ a b = _
                rw [ms_o (by omega), p2 _ _ h1 h3, h6 _ _ h1 h2 h3]) FU 1001 ((0 : Int32), I) (by unfold FU; omega)
          ⟨0, by omega, rfl, rfl, fun x hx => absurd hx (Nat.not_lt_zero _), fun k' a b => g4 k' a b, g5⟩
        exact Or.inr ⟨(nI u - 1, b), u, by omega, by simp only [m_X12_hopes_b2, c, if_false, v1, Option.bind_some, p_m1], u, by omega, rfl, rfl, v2.1, v2.2⟩) FU (n + 1) (nI n, K) (by unfold FU; omega)
    ⟨n + 1, by omega, rfl, by rw [nI_pred], fun k' a b => by omega, FrH.rf⟩
  exact ⟨b, by simp only [m_X12_hopes, f1, Option.bind_some], f2⟩
