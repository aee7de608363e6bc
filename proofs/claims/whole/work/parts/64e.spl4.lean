/-! reading: the reference's split, the segments in a row -/
def SgM (K : Mem) (i : Nat) (S : Sg) : Prop := K 209 i = nI S.1 ∧ K 210 i = nI (tgM S.2.1) ∧ K 211 i = nI S.2.2.length ∧ ∀ j, j < S.2.2.length → ElM K (5 * i + j) (S.2.2.getD j [])
def MsM (K : Mem) (S : List Sg) : Prop := K 196 22 = nI S.length ∧ ∀ i, i < S.length → SgM K i (S.getD i (0, [], []))
/-- only faults and the segment k are written -/
def FrX (k : Nat) (K K' : Mem) : Prop := ∀ a b, ¬ (a = 196 ∧ (b = 16 ∨ b = 22)) → a ≠ 207 → a ≠ 208 → ¬ (209 ≤ a ∧ a ≤ 211 ∧ b = k) → ¬ (a = 212 ∧ 5 * k ≤ b ∧ b < 5 * k + 5) → ¬ (a = 213 ∧ 40 * k ≤ b ∧ b < 40 * k + 40) → K' a b = K a b
def FrR (K K' : Mem) : Prop := ∀ a b, ¬ (a = 196 ∧ (b = 16 ∨ b = 22)) → ¬ (207 ≤ a ∧ a ≤ 213) → K' a b = K a b
theorem FrX.r {k : Nat} {A B : Mem} (h : FrX k A B) : FrR A B := fun a b p q => h a b p (by omega) (by omega) (by omega) (by omega) (by omega)
theorem FrR.tr {A B C : Mem} (h : FrR A B) (h2 : FrR B C) : FrR A C := fun a b p q => (h2 a b p q).trans (h a b p q)
theorem FlM.g {J J' : Mem} {F : List (Nat × Nat)} (h : FlM J F) (hf : ∀ a b, (a = 196 ∧ b = 16) ∨ a = 207 ∨ a = 208 → J' a b = J a b) : FlM J' F := by
  obtain ⟨k1, k2⟩ := h
  refine ⟨by rw [hf _ _ (Or.inl ⟨rfl, rfl⟩), k1], fun i hi => ?_⟩
  rw [hf _ _ (Or.inr (Or.inl rfl)), hf _ _ (Or.inr (Or.inr rfl))]
  exact k2 i hi
theorem SgM.x {J J' : Mem} {k i : Nat} {S : Sg} (h : SgM J i S) (hl : S.2.2.length ≤ 5) (hik : i ≠ k) (hf : FrX k J J') : SgM J' i S := by
  obtain ⟨h1, h2, h3, h4⟩ := h
  refine ⟨by rw [hf _ _ (by omega) (by omega) (by omega) (by omega) (by omega) (by omega), h1], by rw [hf _ _ (by omega) (by omega) (by omega) (by omega) (by omega) (by omega), h2], by rw [hf _ _ (by omega) (by omega) (by omega) (by omega) (by omega) (by omega), h3], fun j hj => ?_⟩
  obtain ⟨k1, k2⟩ := h4 j hj
  refine ⟨by rw [hf _ _ (by omega) (by omega) (by omega) (by omega) (by omega) (by omega), k1], fun x hx h8 => ?_⟩
  rw [hf _ _ (by omega) (by omega) (by omega) (by omega) (by omega) (by omega)]
  exact k2 x hx h8
theorem partsM {K : Mem} {t : Nat → Nat} {n e a k : Nat} {F : List (Nat × Nat)} (h : TxM K t n) (hc : Chn t n e a) (hk : k < 20) (h22 : K 196 22 = nI k) (hF : FlM K F) (hl : F.length + 7 ≤ 160) :
    ∃ K', m_X12_parts 196 (nI a) (nI e) K = some K' ∧ SgM K' k (sgS t e a) ∧ FlM K' (F ++ sgF t e a) ∧ K' 196 22 = nI (k + 1) ∧ FrX k K K' := by
  have hn := h.1
  have hP := Prt.start hc
  have hle := hP.le
  obtain ⟨s, hs⟩ : ∃ s, s = skp t 43 e a := ⟨_, rfl⟩
  rw [← hs] at hP hle
  obtain ⟨w, hw⟩ : ∃ w, w = wlk t s a := ⟨_, rfl⟩
  have wlen := wlk_le (t := t) (p := s) s a (by omega)
  rw [← hw] at wlen
  have w8 : inb (nI k) 20 = true := inb_n hk (by omega)
  have w9 : (nI k).toNatClampNeg = k := nI_clamp (by omega)
  have hT1 : TxM (ms K 209 k (nI a)) t n := h.fr fun a b q => ms_o (by omega)
  have tg := tagM_ok (k := k) hT1 hP
  rw [← hw] at tg
  have tlt : tgM w < 65536 := by
    -- every letter of a walk is a letter of the text
    have : ∀ f y, s - y ≤ f → Prt t n e s y → ∀ c ∈ wlk t s y, c ≤ 126 := by
      intro f
      induction f with
      | zero => intro y hy hp c hc; rw [wlk_nil (by omega)] at hc; simp at hc
      | succ f ih =>
        intro y hy hp c hc
        by_cases z : y < s
        · obtain ⟨p1, p2, p3, p4⟩ := hp.step z
          have hst := stp_gt t y
          rw [wlk_s z, List.mem_cons] at hc
          rcases hc with hc | hc
          · have hle2 := hp.le
            unfold ltr at hc
            split at hc
            · rename_i v
              have : stp t y = y + 2 := by unfold stp; rw [if_pos v]
              have := h.2.2 (y + 1) (by omega)
              omega
            · have := h.2.2 y (by omega)
              omega
          · exact ih _ (by omega) p3 c hc
        · rw [wlk_nil z] at hc; simp at hc
    unfold tgM
    cases hg : w.getLast? with
    | none => simp
    | some c =>
      have := this s a (by omega) hP c (by rw [← hw]; exact List.mem_of_getLast? hg)
      simp only [Option.getD_some]
      omega
  have ok := okc_n' tlt
  obtain ⟨I1, hI1⟩ : ∃ I1, I1 = ms (ms K 209 k (nI a)) 210 k (nI (tgM w)) := ⟨_, rfl⟩
  have i09 : I1 209 k = nI a := by rw [hI1, ms_o (by omega), ms_s rfl rfl]
  have i10 : I1 210 k = nI (tgM w) := by rw [hI1, ms_s rfl rfl]
  have fr1 : FrX k K I1 := fun a b p q r u v y => by rw [hI1, ms_o (by omega), ms_o (by omega)]
  have hF1 : FlM I1 F := hF.g fun a b q => by rw [hI1, ms_o (by omega), ms_o (by omega)]
  have i22 : I1 196 22 = nI k := by rw [hI1, ms_o (by omega), ms_o (by omega), h22]
  have rest : ∀ (I : Mem) (F1 : List (Nat × Nat)), I 209 k = nI a → I 210 k = nI (tgM w) → I 196 22 = nI k → FrX k K I → FlM I F1 → F1.length + 6 ≤ 160 → ∃ K', m_X12_parts_j115 196 (nI e) (nI k) 0 (nI s) I = some K' ∧ SgM K' k (a, w, elP t e 5 s) ∧ FlM K' (F1 ++ elF t e 5 s) ∧ K' 196 22 = nI (k + 1) ∧ FrX k K K' := fun I F1 b1 b2 b3 frI hF1 hl1 => by
    obtain ⟨b, f1, f2⟩ := loop_run (body := fun x => m_X12_parts_b115 196 (nI e) (nI k) x.1 x.2.1 x.2.2)
      (Inv := fun r x => ∃ p E F2, r = 5 - E.length ∧ x.1 = nI E.length ∧ x.2.1 = nI p ∧ p ≤ e ∧ (p < e → t p = 43 ∧ Chn t n e (p + 1)) ∧ E.length ≤ 5 ∧ E ++ elP t e (5 - E.length) p = elP t e 5 s ∧ F2 ++ elF t e (5 - E.length) p = F1 ++ elF t e 5 s ∧ F2.length ≤ F1.length + E.length ∧ (∀ j, j < E.length → ElM x.2.2 (5 * k + j) (E.getD j [])) ∧ FlM x.2.2 F2 ∧ x.2.2 209 k = nI a ∧ x.2.2 210 k = nI (tgM w) ∧ x.2.2 196 22 = nI k ∧ FrX k K x.2.2)
      (Post := fun b => ∃ p F2, b.1 = nI (elP t e 5 s).length ∧ b.2.1 = nI p ∧ p ≤ e ∧ F2.length + 1 ≤ 160 ∧ F2 ++ (if p < e then [(3, p + 1)] else []) = F1 ++ elF t e 5 s ∧ (∀ j, j < (elP t e 5 s).length → ElM b.2.2 (5 * k + j) ((elP t e 5 s).getD j [])) ∧ FlM b.2.2 F2 ∧ b.2.2 209 k = nI a ∧ b.2.2 210 k = nI (tgM w) ∧ b.2.2 196 22 = nI k ∧ FrX k K b.2.2) (fun r x ⟨p, E, F2, g1, g2, g2', g3, g4, g5, g6, g7, g7', g8, g9, g10, g11, g12, g13⟩ => by
        obtain ⟨x4, x7, I2⟩ := x
        simp only at g2 g2' g8 g9 g10 g11 g12 g13
        subst g2
        subst g2'
        by_cases z : p < e
        · have cc : ¬ nI e ≤ nI p := nI_ge z (by omega)
          by_cases y : E.length = 5
          · have c5 : (5 : Int32) ≤ nI E.length := nI_le (a := 5) (by omega) (by omega)
            rw [y, Nat.sub_self] at g6 g7
            rw [elP_0 (p := p), List.append_nil] at g6
            rw [elF_0 (p := p)] at g7
            exact Or.inl ⟨(nI E.length, nI p, I2), by simp only [m_X12_parts_b115, cc, if_false, c5, if_true], p, F2, by rw [← g6], rfl, g3, by omega, g7, by rw [← g6]; exact g8, g9, g10, g11, g12, g13⟩
          · have c5 : ¬ 5 ≤ nI E.length := nI_ge (b := 5) (by omega) (by omega)
            have hTI : TxM I2 t n := h.fr fun a b q => g13 a b (by omega) (by omega) (by omega) (by omega) (by omega) (by omega)
            obtain ⟨q1, q2⟩ := g4 z
            have hP2 := Prt.start q2
            have le2 := hP2.le
            obtain ⟨s2, hs2⟩ : ∃ s2, s2 = skp t 43 e (p + 1) := ⟨_, rfl⟩
            rw [← hs2] at hP2 le2
            obtain ⟨v, hv⟩ : ∃ v, v = wlk t s2 (p + 1) := ⟨_, rfl⟩
            have vlen := wlk_le (t := t) (p := s2) s2 (p + 1) (by omega)
            rw [← hv] at vlen
            obtain ⟨I3, u1, u2, u3⟩ := elM_ok (k := k) (j := E.length) hTI hP2 hk (by omega)
            rw [← hv] at u1 u2
            have e3 : nI p + 1 = nI (p + 1) := nI_1 p
            have e5 : nI E.length + 1 = nI (E.length + 1) := nI_1 _
            obtain ⟨x1, x2, x3⟩ := ix5 (s := k) (e := E.length) hk (by omega)
            obtain ⟨I4, hI4⟩ : ∃ I4, I4 = ms I3 212 (5 * k + E.length) (nI v.length) := ⟨_, rfl⟩
            have fr4 : ∀ a b, ¬ (a = 212 ∧ b = 5 * k + E.length) → ¬ (a = 213 ∧ 8 * (5 * k + E.length) ≤ b ∧ b < 8 * (5 * k + E.length) + 8) → I4 a b = I2 a b := fun a b p q => by rw [hI4, ms_o (by omega), u3 a b q]
            have el4 : ∀ j, j < E.length + 1 → ElM I4 (5 * k + j) ((E ++ [v]).getD j []) := fun j hj => by
              by_cases o : j = E.length
              · subst o
                rw [getD_lastE]
                exact ⟨by rw [hI4, ms_s rfl rfl], fun x hx h8 => by rw [hI4, ms_o (by omega)]; exact u2 x hx h8⟩
              · rw [getD_appE (by omega)]
                obtain ⟨k1, k2⟩ := g8 j (by omega)
                exact ⟨by rw [fr4 _ _ (by omega) (by omega), k1], fun x hx h8 => by rw [fr4 _ _ (by omega) (by omega)]; exact k2 x hx h8⟩
            have fl4 : FlM I4 F2 := g9.g fun a b q => fr4 a b (by omega) (by omega)
            have hd : 5 - E.length = (5 - (E.length + 1)) + 1 := by omega
            rw [hd] at g6 g7
            rw [elP_s (f := 5 - (E.length + 1)) (p := p), if_pos z, ← hs2, ← hv] at g6
            rw [elF_s (f := 5 - (E.length + 1)) (p := p), if_pos z, ← hs2, ← hv] at g7
            have hP3 := (Chn.part' q2).2.2.2
            rw [← hs2] at hP3
            have fin : ∀ (I5 : Mem) (F3 : List (Nat × Nat)), F3 = F2 ++ (if 8 < v.length then [(4, p + 1)] else []) → F3.length ≤ F2.length + 1 → FlM I5 F3 → (∀ a b, ¬ (a = 196 ∧ b = 16) → a ≠ 207 → a ≠ 208 → I5 a b = I4 a b) → m_X12_parts_b115 196 (nI e) (nI k) (nI E.length) (nI p) I2 = some (.inl (nI (E.length + 1), nI s2, I5)) →
                ∃ a' n', n' < r ∧ m_X12_parts_b115 196 (nI e) (nI k) (nI E.length) (nI p) I2 = some (.inl a') ∧ ∃ p E F2, n' = 5 - E.length ∧ a'.1 = nI E.length ∧ a'.2.1 = nI p ∧ p ≤ e ∧ (p < e → t p = 43 ∧ Chn t n e (p + 1)) ∧ E.length ≤ 5 ∧ E ++ elP t e (5 - E.length) p = elP t e 5 s ∧ F2 ++ elF t e (5 - E.length) p = F1 ++ elF t e 5 s ∧ F2.length ≤ F1.length + E.length ∧ (∀ j, j < E.length → ElM a'.2.2 (5 * k + j) (E.getD j [])) ∧ FlM a'.2.2 F2 ∧ a'.2.2 209 k = nI a ∧ a'.2.2 210 k = nI (tgM w) ∧ a'.2.2 196 22 = nI k ∧ FrX k K a'.2.2 := fun I5 F3 hF3 hl3 fl5 fr5 hb => by
              have le1 : (E ++ [v]).length = E.length + 1 := by simp
              refine ⟨_, 5 - (E.length + 1), by omega, hb, s2, E ++ [v], F3, by rw [le1], by rw [le1], rfl, le2.2.1, hP3, by omega, ?_, ?_, by omega, fun j hj => ?_, fl5, ?_, ?_, ?_, fun a b p q r u v y => ?_⟩
              · rw [le1, List.append_assoc, ← g6]
                rfl
              · rw [le1, hF3, List.append_assoc, ← g7]
              · rw [le1] at hj
                obtain ⟨k1, k2⟩ := el4 j hj
                exact ⟨by show I5 212 _ = _; rw [fr5 _ _ (by omega) (by omega) (by omega), k1], fun x hx h8 => by show I5 213 _ = _; rw [fr5 _ _ (by omega) (by omega) (by omega)]; exact k2 x hx h8⟩
              · show I5 209 k = _
                rw [fr5 _ _ (by omega) (by omega) (by omega), fr4 _ _ (by omega) (by omega), g10]
              · show I5 210 k = _
                rw [fr5 _ _ (by omega) (by omega) (by omega), fr4 _ _ (by omega) (by omega), g11]
              · show I5 196 22 = _
                rw [fr5 _ _ (by omega) (by omega) (by omega), fr4 _ _ (by omega) (by omega), g12]
              · show I5 a b = _
                rw [fr5 _ _ (by omega) q r, fr4 _ _ (by omega) (by omega), g13 a b p q r u v y]
            by_cases o : 8 < v.length
            · have c8 : ¬ nI v.length ≤ 8 := nI_ge (a := 8) o (by omega)
              obtain ⟨I5, q1, q2, q3⟩ := FlM.add (k := 4) (p := p + 1) fl4 (by omega)
              have q1' : m_X12_fault 196 (4 : Int32) (nI (p + 1)) I4 = some I5 := q1
              rw [hI4] at q1'
              exact Or.inr (fin I5 _ (by rw [if_pos o]) (by simp) q2 q3 (by simp only [m_X12_parts_b115, cc, if_false, c5, e3, u1, Option.bind_some, x1, x2, x3, gd_t, Nat.reduceAdd, bnd, c8, q1', m_X12_parts_j247, e5]))
            · have c8 : nI v.length ≤ 8 := nI_le (b := 8) (by omega) (by omega)
              exact Or.inr (fin I4 F2 (by rw [if_neg o, List.append_nil]) (by omega) fl4 (fun _ _ _ _ _ => rfl) (by rw [hI4]; simp only [m_X12_parts_b115, cc, if_false, c5, e3, u1, Option.bind_some, x1, x2, x3, gd_t, Nat.reduceAdd, bnd, c8, if_true, m_X12_parts_j247, e5]))
        · have cc : nI e ≤ nI p := nI_le (by omega) (by omega)
          have e1 : elP t e (5 - E.length) p = [] := by cases (5 - E.length) <;> simp [elP, z]
          have e2 : elF t e (5 - E.length) p = [] := by cases (5 - E.length) <;> simp [elF, z]
          rw [e1, List.append_nil] at g6
          rw [e2] at g7
          exact Or.inl ⟨(nI E.length, nI p, I2), by simp only [m_X12_parts_b115, cc, if_true], p, F2, by rw [← g6], rfl, g3, by omega, by rw [if_neg z]; exact g7, by rw [← g6]; exact g8, g9, g10, g11, g12, g13⟩) FU 5 ((0 : Int32), nI s, I) (by unfold FU; omega)
      ⟨s, [], F1, rfl, rfl, rfl, hle.2.1, by have := (Chn.part' hc).2.2.2; rw [← hs] at this; exact this, by simp, rfl, rfl, by simp, fun j hj => absurd hj (Nat.not_lt_zero _), hF1, b1, b2, b3, frI⟩
    obtain ⟨p, F2, o1, o2, o2', o3, o4, o5, o6, o7, o8, o9, o10⟩ := f2
    have elen := elP_len (t := t) (e := e) 5 s
    have fl2 : FlM (ms b.2.2 211 k (nI (elP t e 5 s).length)) F2 := o6.g fun a b q => ms_o (by omega)
    have e5 : nI k + 1 = nI (k + 1) := nI_1 _
    -- the end: elements, perhaps a fault, one more read
    have fin : ∀ (I5 : Mem), FlM I5 (F1 ++ elF t e 5 s) → (∀ a' b', ¬ (a' = 196 ∧ b' = 16) → a' ≠ 207 → a' ≠ 208 → I5 a' b' = ms b.2.2 211 k (nI (elP t e 5 s).length) a' b') → m_X12_parts_j273 196 I5 = some (ms I5 196 22 (nI (k + 1))) ∧ SgM (ms I5 196 22 (nI (k + 1))) k (a, w, elP t e 5 s) ∧ FlM (ms I5 196 22 (nI (k + 1))) (F1 ++ elF t e 5 s) ∧ (ms I5 196 22 (nI (k + 1))) 196 22 = nI (k + 1) ∧ FrX k K (ms I5 196 22 (nI (k + 1))) := fun I5 hf5 fr5 => by
      have c22 : I5 196 22 = nI k := by rw [fr5 _ _ (by omega) (by omega) (by omega), ms_o (by omega), o9]
      refine ⟨by simp only [m_X12_parts_j273, bnd, c22, e5], ⟨?_, ?_, ?_, fun j hj => ?_⟩, hf5.g fun a b q => ms_o (by omega), ms_s rfl rfl, fun a b p q r u v y => ?_⟩
      · rw [ms_o (by omega), fr5 _ _ (by omega) (by omega) (by omega), ms_o (by omega), o7]
      · rw [ms_o (by omega), fr5 _ _ (by omega) (by omega) (by omega), ms_o (by omega), o8]
      · rw [ms_o (by omega), fr5 _ _ (by omega) (by omega) (by omega), ms_s rfl rfl]
      · obtain ⟨k1, k2⟩ := o5 j hj
        exact ⟨by rw [ms_o (by omega), fr5 _ _ (by omega) (by omega) (by omega), ms_o (by omega), k1], fun x hx h8 => by rw [ms_o (by omega), fr5 _ _ (by omega) (by omega) (by omega), ms_o (by omega)]; exact k2 x hx h8⟩
      · rw [ms_o (by omega), fr5 _ _ (by omega) q r, ms_o (by omega), o10 a b p q r u v y]
    by_cases z : p < e
    · have cc : ¬ nI e ≤ nI p := nI_ge z (by omega)
      have e3 : nI p + 1 = nI (p + 1) := nI_1 p
      rw [if_pos z] at o4
      obtain ⟨I5, q1, q2, q3⟩ := FlM.add (k := 3) (p := p + 1) fl2 (by omega)
      have q1' : m_X12_fault 196 (3 : Int32) (nI (p + 1)) (ms b.2.2 211 k (nI (elP t e 5 s).length)) = some I5 := q1
      rw [o4] at q2
      obtain ⟨v1, v2, v3, v4, v5⟩ := fin I5 q2 q3
      exact ⟨_, by simp only [m_X12_parts_j115, f1, Option.bind_some, w8, w9, gd_t, Nat.reduceAdd, bnd, o1, o2, cc, if_false, e3, q1', v1], v2, v3, v4, v5⟩
    · have cc : nI e ≤ nI p := nI_le (by omega) (by omega)
      rw [if_neg z, List.append_nil] at o4
      rw [o4] at fl2
      obtain ⟨v1, v2, v3, v4, v5⟩ := fin _ fl2 (fun _ _ _ _ _ => rfl)
      exact ⟨_, by simp only [m_X12_parts_j115, f1, Option.bind_some, w8, w9, gd_t, Nat.reduceAdd, bnd, o1, o2, cc, if_true, v1], v2, v3, v4, v5⟩
  have eS : sgS t e a = (a, w, elP t e 5 s) := by unfold sgS; rw [← hs, ← hw]
  have eF : sgF t e a = (if okt w = true then [] else [(2, a)]) ++ elF t e 5 s := by unfold sgF; rw [← hs, ← hw]
  rw [eS, eF]
  have inn : m_X12_in (nI (tgM w)) 65 90 I1 = some (bz (decide (65 ≤ tgM w ∧ tgM w ≤ 90))) := in_ok (lo := 65) (hi := 90) tlt (by omega) (by omega)
  rw [hI1] at inn
  by_cases z : okt w = true
  · obtain ⟨z1, z2, z3⟩ := okt_iff.mp z
    rw [decide_eq_true ⟨z2, z3⟩, bz_t] at inn
    have n10 : ¬ (1 : Int32) = 0 := by decide
    have l1 : nI w.length = 1 := by rw [z1]; rfl
    rw [if_pos z, List.nil_append]
    obtain ⟨K', u1, u2, u3, u4, u5⟩ := rest I1 F i09 i10 i22 fr1 hF1 (by omega)
    rw [hI1] at u1
    exact ⟨K', by simp only [m_X12_parts, h22, w8, w9, gd_t, bnd, Nat.reduceAdd, tg, Option.bind_some, ok, if_pos l1, inn, n10, if_false, u1], u2, u3, u4, u5⟩
  · rw [if_neg z, ← List.append_assoc]
    obtain ⟨J2, q1, q2, q3⟩ := FlM.add (k := 2) (p := a) hF1 (by omega)
    have q1' : m_X12_fault 196 (2 : Int32) (nI a) I1 = some J2 := q1
    obtain ⟨K', u1, u2, u3, u4, u5⟩ := rest J2 _ (by rw [q3 _ _ (by omega) (by omega) (by omega), i09]) (by rw [q3 _ _ (by omega) (by omega) (by omega), i10]) (by rw [q3 _ _ (by omega) (by omega) (by omega), i22]) (fun a b p q r u v y => by rw [q3 _ _ (by omega) q r, fr1 a b p q r u v y]) q2 (by rw [List.length_append]; simp only [List.length_cons, List.length_nil]; omega)
    rw [hI1] at q1'
    by_cases l : w.length = 1
    · have l1 : nI w.length = 1 := by rw [l]; rfl
      rw [decide_eq_false (fun q => z (okt_iff.mpr ⟨l, q⟩)), bz_f] at inn
      exact ⟨K', by simp only [m_X12_parts, h22, w8, w9, gd_t, bnd, Nat.reduceAdd, tg, Option.bind_some, ok, if_pos l1, inn, if_true, m_X12_parts_j109, q1', u1], u2, u3, u4, u5⟩
    · have l1 : ¬ nI w.length = 1 := fun q => l ((nI_eq (b := 1) (by omega) (by omega)).mp q)
      exact ⟨K', by simp only [m_X12_parts, h22, w8, w9, gd_t, bnd, Nat.reduceAdd, tg, Option.bind_some, ok, if_neg l1, m_X12_parts_j109, q1', u1], u2, u3, u4, u5⟩
