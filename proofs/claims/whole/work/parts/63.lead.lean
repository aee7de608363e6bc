/-! the reference: where a place leads to, whether a body can end there -/
def MR (K : Mem) (T : Nat → Nat → Nat) (ni ne : Nat) (eo : Nat → Nat) : Prop := SchM K T ni ne false ∧ SF T ni ne ∧ EO T ne eo ∧ ∀ i, i < ni → K 200 i = nI (eo i) ∧ eo i < ne ∧ T 4 (eo i) ≤ i ∧ i < T 5 (eo i)
def FrL (K K' : Mem) : Prop := ∀ a b, ¬ (a = 196 ∧ b = 35) → a ≠ 221 → K' a b = K a b
theorem FrL.tr {A B C : Mem} (h : FrL A B) (h2 : FrL B C) : FrL A C := fun a b x y => (h2 a b x y).trans (h a b x y)
theorem FrL.rf {A : Mem} : FrL A A := fun _ _ _ _ => rfl
/-- all but what a match writes -/
def FrK (K K' : Mem) : Prop := ∀ a b, ¬ (a = 196 ∧ b = 35) → ¬ (218 ≤ a ∧ a ≤ 221) → K' a b = K a b
theorem FrK.tr {A B C : Mem} (h : FrK A B) (h2 : FrK B C) : FrK A C := fun a b x y => (h2 a b x y).trans (h a b x y)
theorem FrK.rf {A : Mem} : FrK A A := fun _ _ _ _ => rfl
theorem FrL.k {A B : Mem} (h : FrL A B) : FrK A B := fun a b x y => h a b x (by omega)
theorem MR.fr {K K' : Mem} {T : Nat → Nat → Nat} {ni ne : Nat} {eo : Nat → Nat} (h : MR K T ni ne eo) (hf : FrK K K') : MR K' T ni ne eo := by
  obtain ⟨h1, h2, h3, h4⟩ := h
  refine ⟨h1.congr fun a b hd => hf a b (by unfold DSch at hd; omega) (by unfold DSch at hd; omega), h2, h3, fun i hi => ?_⟩
  rw [hf _ _ (by omega) (by omega)]
  exact h4 i hi
def TgL (K : Mem) (l : List Nat) : Prop := K 196 35 = nI l.length ∧ ∀ x, x < l.length → K 221 x = nI (l.getD x 0)
theorem TgL.push {K : Mem} {l : List Nat} {v : Nat} (h : TgL K l) (hl : l.length < 64) : TgL (ms (ms K 221 l.length (nI v)) 196 35 (nI l.length + 1)) (l ++ [v]) := by
  obtain ⟨h1, h2⟩ := h
  refine ⟨?_, fun x hx => ?_⟩
  · rw [ms_s rfl rfl, nI_1]
    simp
  · rw [ms_o (by omega)]
    rw [List.length_append] at hx
    simp only [List.length_cons, List.length_nil] at hx
    by_cases z : x = l.length
    · rw [ms_s rfl z]
      subst z
      simp [List.getD_eq_getElem?_getD]
    · rw [ms_o (by omega), h2 x (by omega)]
      simp only [List.getD_eq_getElem?_getD]
      rw [List.getElem?_append_left (by omega)]
theorem pm_iff {a j : Nat} (ha : a < 1000) (hj : j < 1000) : nI a - 1 < nI j ↔ a ≤ j := by
  rw [Int32.lt_iff_toInt_lt]
  show (nI a - nI 1).toInt < _ ↔ _
  rw [pk_sub_toInt (by omega) (by omega), nI_toInt (by omega)]
  omega
theorem ent_len {T : Nat → Nat → Nat} {c q : Nat} : ∀ d j, (ent T c q d j).length ≤ d := by
  intro d
  induction d with
  | zero => intro j; simp [ent]
  | succ d ih =>
    intro j
    have := ih (j + 1)
    simp only [ent, List.length_append]
    by_cases a : T 0 j = c <;> by_cases b : T 1 j = 0 <;> simp [a, b] <;> omega
theorem enters_ok {K : Mem} {T : Nat → Nat → Nat} {ni ne f E q c : Nat} {eo : Nat → Nat} {l : List Nat} (hR : MR K T ni ne eo) (hl : TgL K l) (hf : f ≤ E) (hE : E ≤ ni) (hq : q ≤ 10) (hc : c < 65536) (hb : l.length + (E - f) ≤ 64) :
    ∃ K', m_X12_enters 196 (nI f) (nI E - 1) (nI q) (nI c) K = some (bz (allo T (E - f) f), K') ∧ TgL K' (l ++ ent T c q (E - f) f) ∧ FrL K K' := by
  obtain ⟨hM, hS, hEO, h200⟩ := hR
  have k0 := hS.1
  obtain ⟨b, f1, f2⟩ := loop_run (body := fun a => m_X12_enters_b6 196 (nI E - 1) (nI q) (nI c) a.1 a.2.1 a.2.2)
    (Inv := fun r a => ∃ j X on, f ≤ j ∧ j ≤ E ∧ r = E - j ∧ a.2.1 = nI j ∧ a.1 = bz on ∧ TgL a.2.2 X ∧ (on = true → X ++ ent T c q (E - j) j = l ++ ent T c q (E - f) f ∧ allo T (E - j) j = allo T (E - f) f) ∧ (on = false → X = l ++ ent T c q (E - f) f ∧ allo T (E - f) f = false) ∧ X.length + (E - j) ≤ 64 ∧ FrL K a.2.2)
    (Post := fun b => b.1 = bz (allo T (E - f) f) ∧ TgL b.2 (l ++ ent T c q (E - f) f) ∧ FrL K b.2) (fun r a ⟨j, X, on, g1, g2, g3, g4, g5, g6, g7, g8, g9, g10⟩ => by
      obtain ⟨x5, x6, I⟩ := a
      simp only at g4 g5 g6 g10
      subst g4
      subst g5
      by_cases z : j = E
      · subst z
        have cc : nI j - 1 < nI j := (pm_iff (by omega) (by omega)).mpr (by omega)
        refine Or.inl ⟨(bz on, I), by simp only [m_X12_enters_b6, cc, if_true], ?_⟩
        cases on with
        | true =>
          have := g7 rfl
          rw [Nat.sub_self j] at this
          simp only [ent, allo, List.append_nil] at this
          exact ⟨by rw [← this.2], by rw [← this.1]; exact g6, g10⟩
        | false =>
          have := g8 rfl
          exact ⟨by rw [this.2], by rw [← this.1]; exact g6, g10⟩
      · have cc : ¬ nI E - 1 < nI j := fun h => by have := (pm_iff (by omega) (by omega)).mp h; omega
        have e3 : nI j + 1 = nI (j + 1) := nI_1 j
        have w8 : inb (nI j) 10 = true := inb_n (by omega) (by omega)
        have w9 : (nI j).toNatClampNeg = j := nI_clamp (by omega)
        cases on with
        | false =>
          refine Or.inr ⟨((0 : Int32), nI (j + 1), I), E - (j + 1), by omega, ?_, j + 1, X, false, by omega, by omega, rfl, rfl, rfl, g6, fun h => (nomatch h), g8, by omega, g10⟩
          simp only [m_X12_enters_b6, cc, if_false, bz_f, if_true, m_X12_enters_j60, m_X12_enters_j79, m_X12_enters_j80, e3]
        | true =>
          obtain ⟨u1, u2⟩ := g7 rfl
          have hd : E - j = (E - (j + 1)) + 1 := by omega
          rw [hd] at u1 u2
          simp only [ent, allo] at u1 u2
          have tg : I 197 j = nI (T 0 j) := by rw [g10 _ _ (by omega) (by omega), (hM.2.2.2.1 j (by omega)).1]
          have tl : ∀ J, FrL I J → J 198 j = nI (T 1 j) := fun J hJ => by rw [hJ _ _ (by omega) (by omega), g10 _ _ (by omega) (by omega), (hM.2.2.2.1 j (by omega)).2.1]
          have n10 : ¬ (1 : Int32) = 0 := by decide
          have t := hS.2.2.1 j (by omega)
          have fin : ∀ (Y : List Nat) (J : Mem), TgL J Y → FrL I J → Y.length ≤ X.length + 1 → Y = X ++ (if T 0 j = c then [100 * j + 10 * q + 1] else []) → m_X12_enters_b6 196 (nI E - 1) (nI q) (nI c) (bz true) (nI j) I = m_X12_enters_j60 196 (nI E - 1) (nI q) (nI c) 1 (nI j) J →
              ∃ a' n', n' < r ∧ m_X12_enters_b6 196 (nI E - 1) (nI q) (nI c) (bz true) (nI j) I = some (.inl a') ∧ ∃ j X on, f ≤ j ∧ j ≤ E ∧ n' = E - j ∧ a'.2.1 = nI j ∧ a'.1 = bz on ∧ TgL a'.2.2 X ∧ (on = true → X ++ ent T c q (E - j) j = l ++ ent T c q (E - f) f ∧ allo T (E - j) j = allo T (E - f) f) ∧ (on = false → X = l ++ ent T c q (E - f) f ∧ allo T (E - f) f = false) ∧ X.length + (E - j) ≤ 64 ∧ FrL K a'.2.2 := fun Y J hY hJ hlen hYX hb => by
            rw [hb]
            have tl' := tl J hJ
            by_cases o : T 1 j = 0
            · have o' : nI (T 1 j) = 0 := by rw [o]; rfl
              refine ⟨((1 : Int32), nI (j + 1), J), E - (j + 1), by omega, ?_, j + 1, Y, true, by omega, by omega, rfl, rfl, rfl, hY, fun _ => ⟨?_, ?_⟩, fun h => (nomatch h), by omega, g10.tr hJ⟩
              · simp only [m_X12_enters_j60, n10, if_false, w8, w9, gd_t, Nat.reduceAdd, tl', if_pos o', m_X12_enters_j80, e3]
              · rw [hYX, ← u1, if_pos o, List.append_assoc]
              · rw [← u2]; simp [o]
            · have o' : ¬ nI (T 1 j) = 0 := nI_ne0 (by omega) (by omega)
              refine ⟨((0 : Int32), nI (j + 1), J), E - (j + 1), by omega, ?_, j + 1, Y, false, by omega, by omega, rfl, rfl, rfl, hY, fun h => (nomatch h), fun _ => ⟨?_, ?_⟩, by omega, g10.tr hJ⟩
              · simp only [m_X12_enters_j60, n10, if_false, w8, w9, gd_t, Nat.reduceAdd, tl', if_neg o', m_X12_enters_j79, m_X12_enters_j80, e3]
              · rw [hYX, ← u1, if_neg o, List.append_nil]
              · rw [← u2]; simp [o]
          by_cases y : T 0 j = c
          · have y' : nI (T 0 j) = nI c := by rw [y]
            have f35 : I 196 35 = nI X.length := g6.1
            have w1 : inb (nI X.length) 64 = true := inb_n (by omega) (by omega)
            have w2 : (nI X.length).toNatClampNeg = X.length := nI_clamp (by omega)
            have w3 : (100 : Int32) * nI j + (10 : Int32) * nI q + 1 = nI (100 * j + 10 * q + 1) := by
              have a1 : (100 : Int32) * nI j = nI (100 * j) := pk_mul 100 j
              have a2 : (10 : Int32) * nI q = nI (10 * q) := pk_mul 10 q
              rw [a1, a2, nI_add, nI_1]
            have w4 : (ms I 221 X.length (nI (100 * j + 10 * q + 1))) 196 35 = nI X.length := by rw [ms_o (by omega), f35]
            refine Or.inr (fin (X ++ [100 * j + 10 * q + 1]) (ms (ms I 221 X.length (nI (100 * j + 10 * q + 1))) 196 35 (nI X.length + 1)) (g6.push (by omega)) (fun a b h1 h2 => by rw [ms_o (by omega), ms_o (by omega)]) (by simp) (by rw [if_pos y]) ?_)
            simp only [m_X12_enters_b6, cc, if_false, bz_t, n10, w8, w9, gd_t, Nat.reduceAdd, tg, if_pos y', f35, w1, w2, w3, bnd, w4]
          · have y' : ¬ nI (T 0 j) = nI c := fun h => y ((nI_eq (by omega) (by omega)).mp h)
            refine Or.inr (fin X I g6 FrL.rf (by omega) (by rw [if_neg y, List.append_nil]) ?_)
            simp only [m_X12_enters_b6, cc, if_false, bz_t, n10, w8, w9, gd_t, Nat.reduceAdd, tg, if_neg y']) FU (E - f) ((1 : Int32), nI f, K) (by unfold FU; omega)
    ⟨f, l, true, by omega, hf, rfl, rfl, rfl, hl, fun _ => ⟨rfl, rfl⟩, fun h => (nomatch h), hb, FrL.rf⟩
  obtain ⟨f2, f3, f4⟩ := f2
  refine ⟨b.2, ?_, f3, f4⟩
  simp only [m_X12_enters, f1, Option.bind_some, f2, okz_bz, gd_t]
theorem skip_ok {K : Mem} {T : Nat → Nat → Nat} {ni ne e : Nat} {eo : Nat → Nat} (hR : MR K T ni ne eo) (he : e < ne) : m_X12_isSkipped 196 (nI e) K = some (bz (decide (T 6 e = 0))) := by
  obtain ⟨hM, hS, hEO, h200⟩ := hR
  have k := hS.2.2.2.1 e he
  have k1 := hS.2.1
  have w8 : inb (nI e) 12 = true := inb_n (by omega) (by omega)
  have w9 : (nI e).toNatClampNeg = e := nI_clamp (by omega)
  have t := hS.2.2.1 (T 4 e) (by omega)
  have l := (hM.2.2.2.2 e he).2.2.2.1
  have iff : (if T 3 e = 1 then T 6 e else T 1 (T 4 e)) = 0 ↔ T 6 e = 0 := by
    by_cases z : T 3 e = 1
    · rw [if_pos z]
    · rw [if_neg z]
      have := k.2.2.2.2.2.2.1 (by omega)
      omega
  have le : (if T 3 e = 1 then T 6 e else T 1 (T 4 e)) ≤ 9 := by split <;> omega
  by_cases o : T 6 e = 0
  · have o' : nI (if T 3 e = 1 then T 6 e else T 1 (T 4 e)) = 0 := by rw [iff.mpr o]; rfl
    rw [show bz (decide (T 6 e = 0)) = 1 by rw [decide_eq_true o]; rfl]
    simp only [m_X12_isSkipped, w8, w9, gd_t, Nat.reduceAdd, l, if_pos o']
  · have o' : ¬ nI (if T 3 e = 1 then T 6 e else T 1 (T 4 e)) = 0 := nI_ne0 (Nat.pos_of_ne_zero fun h => o (iff.mp h)) (by omega)
    rw [show bz (decide (T 6 e = 0)) = 0 by rw [decide_eq_false o]; rfl]
    simp only [m_X12_isSkipped, w8, w9, gd_t, Nat.reduceAdd, l, if_neg o']
theorem rst_ok {K : Mem} {T : Nat → Nat → Nat} {ni ne e0 c : Nat} {eo : Nat → Nat} {l : List Nat} (hR : MR K T ni ne eo) (hl : TgL K l) (he0 : e0 ≤ ne) (hc : c < 65536) (hb : l.length ≤ 21) :
    ∃ K', m_X12_leads_j225 196 (nI c) (nI e0) K = some K' ∧ TgL K' (l ++ rst T ne c (ne - e0)) ∧ FrL K K' ∧ (l ++ rst T ne c (ne - e0)).length ≤ 31 := by
  have hR0 := hR
  obtain ⟨hM, hS, hEO, h200⟩ := hR
  have k0 := hS.1
  have k1 := hS.2.1
  obtain ⟨b, f1, f2⟩ := loop_run (body := fun a => m_X12_leads_b231 196 (nI c) a.1 a.2.1 a.2.2)
    (Inv := fun r a => ∃ e X on, e0 ≤ e ∧ e ≤ ne ∧ r = ne - e ∧ a.2.1 = nI e ∧ a.1 = bz on ∧ TgL a.2.2 X ∧ (on = true → X ++ rst T ne c (ne - e) = l ++ rst T ne c (ne - e0)) ∧ (on = false → X = l ++ rst T ne c (ne - e0)) ∧ (e < ne → X.length ≤ 21 + T 4 e) ∧ X.length ≤ 31 ∧ FrL K a.2.2)
    (Post := fun b => TgL b (l ++ rst T ne c (ne - e0)) ∧ FrL K b ∧ (l ++ rst T ne c (ne - e0)).length ≤ 31) (fun r a ⟨e, X, on, g1, g2, g3, g4, g5, g6, g7, g8, g9, g9', g10⟩ => by
      obtain ⟨x4, x5, I⟩ := a
      simp only at g4 g5 g6 g10
      subst g4
      subst g5
      have c10 : I 196 10 = nI ne := by rw [g10 _ _ (by omega) (by omega), hM.2.1]
      by_cases z : e = ne
      · subst z
        have cc : nI e ≤ nI e := nI_le (by omega) (by omega)
        refine Or.inl ⟨I, by simp only [m_X12_leads_b231, c10, cc, if_true], ?_⟩
        cases on with
        | true =>
          have := g7 rfl
          rw [Nat.sub_self e] at this
          simp only [rst, List.append_nil] at this
          rw [← this]
          exact ⟨g6, g10, g9'⟩
        | false =>
          rw [← g8 rfl]
          exact ⟨g6, g10, g9'⟩
      · have hlt : e < ne := by omega
        have cc : ¬ nI ne ≤ nI e := nI_ge hlt (by omega)
        cases on with
        | false =>
          refine Or.inl ⟨I, by simp only [m_X12_leads_b231, c10, cc, if_false, bz_f, if_true], ?_⟩
          rw [← g8 rfl]
          exact ⟨g6, g10, g9'⟩
        | true =>
          have n10 : ¬ (1 : Int32) = 0 := by decide
          have k := hS.2.2.2.1 e hlt
          have w8 : inb (nI e) 12 = true := inb_n (by omega) (by omega)
          have w9 : (nI e).toNatClampNeg = e := nI_clamp (by omega)
          have hRI : MR I T ni ne eo := hR0.fr g10.k
          obtain ⟨m1, m2, m3, m4, m5, m6⟩ := hRI.1.2.2.2.2 e hlt
          have hlen := g9 hlt
          obtain ⟨K', p1, p2, p3⟩ := enters_ok (f := T 4 e) (E := T 5 e) (q := qq T e 1) (c := c) hRI g6 (by omega) (by omega) (by unfold qq; split <;> omega) hc (by omega)
          have sk := skip_ok (hRI.fr p3.k) hlt
          have e3 : nI e + 1 = nI (e + 1) := nI_1 e
          have el := ent_len (T := T) (c := c) (q := qq T e 1) (T 5 e - T 4 e) (T 4 e)
          refine Or.inr ⟨(bz (decide (T 6 e = 0)), nI (e + 1), K'), ne - (e + 1), by omega, ?_, e + 1, X ++ ent T c (qq T e 1) (T 5 e - T 4 e) (T 4 e), decide (T 6 e = 0), by omega, by omega, rfl, rfl, rfl, p2, fun h => ?_, fun h => ?_, fun h => ?_, ?_, g10.tr p3⟩
          · by_cases y : T 3 e = 0
            · have y' : nI (T 3 e) = 0 := by rw [y]; rfl
              have y2 : qq T e 1 = 0 := by unfold qq; rw [if_neg (by omega)]
              rw [y2] at p1
              have p1' : m_X12_enters 196 (nI (T 4 e)) (nI (T 5 e) - 1) (0 : Int32) (nI c) I = some (bz (allo T (T 5 e - T 4 e) (T 4 e)), K') := p1
              simp only [m_X12_leads_b231, c10, cc, if_false, bz_t, n10, w8, w9, gd_t, Nat.reduceAdd, m1, if_pos y', m2, m3, m_X12_leads_j275, p1', Option.bind_some, sk, e3]
            · have y' : ¬ nI (T 3 e) = 0 := nI_ne0 (by omega) (by omega)
              have y2 : qq T e 1 = 1 := by unfold qq; rw [if_pos (by omega)]
              rw [y2] at p1
              have p1' : m_X12_enters 196 (nI (T 4 e)) (nI (T 5 e) - 1) (1 : Int32) (nI c) I = some (bz (allo T (T 5 e - T 4 e) (T 4 e)), K') := p1
              simp only [m_X12_leads_b231, c10, cc, if_false, bz_t, n10, w8, w9, gd_t, Nat.reduceAdd, m1, if_neg y', m2, m3, m_X12_leads_j275, p1', Option.bind_some, sk, e3]
          · have h6 : T 6 e = 0 := of_decide_eq_true h
            rw [← g7 rfl, rst_e hlt, if_pos h6, List.append_assoc]
          · have h6 : ¬ T 6 e = 0 := of_decide_eq_false h
            rw [← g7 rfl, rst_e hlt, if_neg h6, List.append_nil]
          · rw [k.2.2.2.2.2.2.2 h, List.length_append]
            omega
          · rw [List.length_append]
            omega) FU (ne - e0) ((1 : Int32), nI e0, K) (by unfold FU; omega)
    ⟨e0, l, true, by omega, he0, rfl, rfl, rfl, hl, fun _ => rfl, fun h => (nomatch h), fun _ => by omega, by omega, FrL.rf⟩
  exact ⟨b, by simp only [m_X12_leads_j225, f1, Option.bind_some], f2.1, f2.2.1, f2.2.2⟩
