/-! the reference: leads, canEnd, isSome -/
theorem code_n {pl : Nat} (h : pl < 1000) : nI pl / 100 = nI (pl / 100) ∧ nI pl - nI pl / 10 * 10 = nI (pl % 10) ∧ nI pl / 10 - nI pl / 10 / 10 * 10 = nI (pl / 10 % 10) := by
  have h1 : nI pl / 10 = nI (pl / 10) := pk_div (d := 10) (by omega) (by omega) (by omega)
  refine ⟨pk_div (d := 100) (by omega) (by omega) (by omega), pk_rem (d := 10) (by omega) (by omega) (by omega), ?_⟩
  rw [h1]
  exact pk_rem (d := 10) (by omega) (by omega) (by omega)
/-- the reference's places -/
def PV (ni pl : Nat) : Prop := pl = 1000 ∨ (pl < 1000 ∧ pl / 100 < ni)
theorem leads_ok {K : Mem} {T : Nat → Nat → Nat} {ni ne pl c : Nat} {eo : Nat → Nat} (hR : MR K T ni ne eo) (hp : PV ni pl) (hc : c < 65536) :
    ∃ K', m_X12_leads 196 (nI pl) (nI c) K = some K' ∧ TgL K' (ldc T ne eo pl c) ∧ FrL K K' ∧ (ldc T ne eo pl c).length ≤ 40 := by
  have hR0 := hR
  obtain ⟨hM, hS, hEO, h200⟩ := hR
  have k0 := hS.1
  have k1 := hS.2.1
  have f0 : FrL K (ms K 196 35 0) := fun a b h1 h2 => ms_o (by omega)
  have hR1 : MR (ms K 196 35 0) T ni ne eo := hR0.fr f0.k
  have t0 : TgL (ms K 196 35 0) [] := ⟨by rw [ms_s rfl rfl]; rfl, fun x hx => absurd hx (Nat.not_lt_zero _)⟩
  rcases hp with rfl | ⟨hp1, hp2⟩
  · obtain ⟨K', p1, p2, p3, p4⟩ := rst_ok (e0 := 0) hR1 t0 (by omega) hc (by simp)
    have p1' : m_X12_leads_j225 196 (nI c) (0 : Int32) (ms K 196 35 0) = some K' := p1
    have z : nI 1000 = 1000 := rfl
    rw [List.nil_append, Nat.sub_zero] at p2 p4
    refine ⟨K', by simp only [m_X12_leads, bnd, z, if_true, p1'], by rw [ldc, if_pos rfl]; exact p2, f0.tr p3, by rw [ldc, if_pos rfl]; omega⟩
  · obtain ⟨d1, d2, d3⟩ := code_n hp1
    generalize hi : pl / 100 = i at *
    generalize hq : pl / 10 % 10 = q at *
    generalize hm : pl % 10 = many at *
    have hq9 : q ≤ 9 := by omega
    have hm9 : many ≤ 9 := by omega
    obtain ⟨e200, he, ha, hb⟩ := h200 i hp2
    generalize hee : eo i = e at *
    have k := hS.2.2.2.1 e he
    have t := hS.2.2.1 i hp2
    have z : ¬ nI pl = 1000 := fun h => by have := (nI_eq (b := 1000) (by omega) (by omega)).mp h; omega
    have w8 : inb (nI i) 10 = true := inb_n (by omega) (by omega)
    have w9 : (nI i).toNatClampNeg = i := nI_clamp (by omega)
    have v8 : inb (nI e) 12 = true := inb_n (by omega) (by omega)
    have v9 : (nI e).toNatClampNeg = e := nI_clamp (by omega)
    have e200' : ms K 196 35 0 200 i = nI e := by rw [f0 _ _ (by omega) (by omega), e200]
    obtain ⟨m1, m2, m3⟩ := hM.2.2.2.1 i hp2
    obtain ⟨l1, l2, l3, l4, l5, l6⟩ := hM.2.2.2.2 e he
    have m1' : ms K 196 35 0 197 i = nI (T 0 i) := by rw [f0 _ _ (by omega) (by omega), m1]
    have m3' : ms K 196 35 0 199 i = nI (T 2 i) := by rw [f0 _ _ (by omega) (by omega), m3]
    have eR : ldc T ne eo pl c = ldp T ne e i q many c := by rw [ldc, if_neg (by omega), hi, hq, hm, hee]
    have f35 : ms K 196 35 0 196 35 = 0 := ms_s rfl rfl
    -- from the memory I, with the list X: the rest
    have rest : ∀ (I : Mem) (X : List Nat), FrL K I → TgL I X → X.length ≤ 1 → ∃ K', m_X12_leads_j89 196 (nI c) (nI i) (nI q) (nI many) (nI e) I = some K' ∧ TgL K' (X ++ (if T 1 i ≤ many then (if T 3 e = 1 then ent T c q (T 5 e - (i + 1)) (i + 1) ++ (if allo T (T 5 e - (i + 1)) (i + 1) = true then (if q < T 7 e then ent T c (q + 1) (T 5 e - T 4 e) (T 4 e) else []) ++ (if T 6 e ≤ q then rst T ne c (ne - (e + 1)) else []) else []) else rst T ne c (ne - (e + 1))) else [])) ∧ FrL K K' ∧ (X ++ (if T 1 i ≤ many then (if T 3 e = 1 then ent T c q (T 5 e - (i + 1)) (i + 1) ++ (if allo T (T 5 e - (i + 1)) (i + 1) = true then (if q < T 7 e then ent T c (q + 1) (T 5 e - T 4 e) (T 4 e) else []) ++ (if T 6 e ≤ q then rst T ne c (ne - (e + 1)) else []) else []) else rst T ne c (ne - (e + 1))) else [])).length ≤ 40 := by
      intro I X hI hX hXl
      have hRI : MR I T ni ne eo := hR0.fr hI.k
      have n2 : I 198 i = nI (T 1 i) := by rw [hI _ _ (by omega) (by omega), m2]
      have n10 : I 196 10 = nI ne := by rw [hI _ _ (by omega) (by omega), hM.2.1]
      -- no next entry
      have stop : ∀ (J : Mem) (Y : List Nat), FrL K J → TgL J Y → Y.length ≤ 21 → ∃ K', m_X12_leads_j224 196 (nI c) (J 196 10) J = some K' ∧ TgL K' Y ∧ FrL K K' := fun J Y hJ hY hl => by
        have n10 : J 196 10 = nI ne := by rw [hJ _ _ (by omega) (by omega), hM.2.1]
        obtain ⟨K', p1, p2, p3, p4⟩ := rst_ok (e0 := ne) (hR0.fr hJ.k) hY (by omega) hc hl
        rw [Nat.sub_self] at p2
        simp only [rst, List.append_nil] at p2
        exact ⟨K', by rw [n10]; exact p1, p2, hJ.tr p3⟩
      have next : ∀ (J : Mem) (Y : List Nat), FrL K J → TgL J Y → Y.length ≤ 21 → ∃ K', m_X12_leads_j224 196 (nI c) (nI e + 1) J = some K' ∧ TgL K' (Y ++ rst T ne c (ne - (e + 1))) ∧ FrL K K' ∧ (Y ++ rst T ne c (ne - (e + 1))).length ≤ 31 := fun J Y hJ hY hl => by
        obtain ⟨K', p1, p2, p3, p4⟩ := rst_ok (e0 := e + 1) (hR0.fr hJ.k) hY (by omega) hc hl
        exact ⟨K', by rw [nI_1]; exact p1, p2, hJ.tr p3, p4⟩
      have o10 : ¬ (1 : Int32) = 0 := by decide
      by_cases a : T 1 i ≤ many
      · have c1 : ¬ nI many < nI (T 1 i) := nI_nlt a (by omega)
        rw [if_pos a]
        have n5 : I 201 e = nI (T 3 e) := by rw [hI _ _ (by omega) (by omega), l1]
        by_cases b : T 3 e = 1
        · rw [if_pos b]
          have c2 : ¬ nI (T 3 e) = 0 := nI_ne0 (by omega) (by omega)
          have n7 : I 203 e = nI (T 5 e) - 1 := by rw [hI _ _ (by omega) (by omega), l3]
          have e3 : nI i + 1 = nI (i + 1) := nI_1 i
          obtain ⟨K1, p1, p2, p3⟩ := enters_ok (f := i + 1) (E := T 5 e) (q := q) (c := c) hRI hX (by omega) (by omega) (by omega) hc (by omega)
          have len1 := ent_len (T := T) (c := c) (q := q) (T 5 e - (i + 1)) (i + 1)
          have fK1 : FrL K K1 := hI.tr p3
          by_cases d : allo T (T 5 e - (i + 1)) (i + 1) = true
          · rw [if_pos d]
            rw [d, bz_t] at p1
            have r9 : K1 205 e = nI (T 7 e) := by rw [fK1 _ _ (by omega) (by omega), l5 b]
            have tail : ∀ (J : Mem) (Y : List Nat), FrL K J → TgL J Y → Y.length ≤ 21 → ∃ K', m_X12_leads_j184 196 (nI c) (nI q) (nI e) 1 J = some K' ∧ TgL K' (Y ++ (if T 6 e ≤ q then rst T ne c (ne - (e + 1)) else [])) ∧ FrL K K' ∧ (Y ++ (if T 6 e ≤ q then rst T ne c (ne - (e + 1)) else [])).length ≤ 31 := fun J Y hJ hY hl => by
              have n8 : J 204 e = nI (T 6 e) := by rw [hJ _ _ (by omega) (by omega), l4, if_pos b]
              by_cases f : T 6 e ≤ q
              · have c4 : ¬ nI q < nI (T 6 e) := nI_nlt f (by omega)
                obtain ⟨K', s1, s2, s3, s4⟩ := next J Y hJ hY hl
                rw [if_pos f]
                exact ⟨K', by simp only [m_X12_leads_j184, o10, if_false, v8, v9, gd_t, Nat.reduceAdd, n8, c4, m_X12_leads_j206, m_X12_leads_j208, s1], s2, s3, s4⟩
              · have c4 : nI q < nI (T 6 e) := nI_lt (by omega) (by omega)
                obtain ⟨K', s1, s2, s3⟩ := stop J Y hJ hY hl
                rw [if_neg f, List.append_nil]
                exact ⟨K', by simp only [m_X12_leads_j184, o10, if_false, v8, v9, gd_t, Nat.reduceAdd, n8, c4, if_true, m_X12_leads_j205, m_X12_leads_j206, m_X12_leads_j208, s1], s2, s3, by omega⟩
            by_cases f : q < T 7 e
            · have c3 : ¬ nI (T 7 e) ≤ nI q := nI_ge f (by omega)
              have r6 : K1 202 e = nI (T 4 e) := by rw [fK1 _ _ (by omega) (by omega), l2]
              have r7 : K1 203 e = nI (T 5 e) - 1 := by rw [fK1 _ _ (by omega) (by omega), l3]
              have e4 : nI q + 1 = nI (q + 1) := nI_1 q
              obtain ⟨K2, u1, u2, u3⟩ := enters_ok (f := T 4 e) (E := T 5 e) (q := q + 1) (c := c) (hR0.fr fK1.k) p2 (by omega) (by omega) (by omega) hc (by rw [List.length_append]; omega)
              have len2 := ent_len (T := T) (c := c) (q := q + 1) (T 5 e - T 4 e) (T 4 e)
              obtain ⟨K3, s1, s2, s3, s4⟩ := tail K2 _ (fK1.tr u3) u2 (by rw [List.length_append, List.length_append]; omega)
              rw [if_pos f, ← List.append_assoc, ← List.append_assoc]
              exact ⟨K3, by simp only [m_X12_leads_j89, w8, w9, gd_t, Nat.reduceAdd, n2, c1, if_false, m_X12_leads_j106, o10, v8, v9, n5, c2, e3, n7, p1, Option.bind_some, r9, c3, r6, r7, e4, u1, s1], s2, s3, by omega⟩
            · have c3 : nI (T 7 e) ≤ nI q := nI_le (by omega) (by omega)
              obtain ⟨K3, s1, s2, s3, s4⟩ := tail K1 _ fK1 p2 (by rw [List.length_append]; omega)
              rw [if_neg f, List.nil_append, ← List.append_assoc]
              exact ⟨K3, by simp only [m_X12_leads_j89, w8, w9, gd_t, Nat.reduceAdd, n2, c1, if_false, m_X12_leads_j106, o10, v8, v9, n5, c2, e3, n7, p1, Option.bind_some, r9, c3, if_true, s1], s2, s3, by omega⟩
          · rw [if_neg d, List.append_nil]
            have d' : allo T (T 5 e - (i + 1)) (i + 1) = false := by simpa using d
            rw [d', bz_f] at p1
            obtain ⟨K', s1, s2, s3⟩ := stop K1 _ fK1 p2 (by rw [List.length_append]; omega)
            exact ⟨K', by simp only [m_X12_leads_j89, w8, w9, gd_t, Nat.reduceAdd, n2, c1, if_false, m_X12_leads_j106, o10, v8, v9, n5, c2, e3, n7, p1, Option.bind_some, if_true, m_X12_leads_j184, m_X12_leads_j205, m_X12_leads_j206, m_X12_leads_j208, s1], s2, s3, by rw [List.length_append]; omega⟩
        · rw [if_neg b]
          have b0 : T 3 e = 0 := by omega
          have c2 : nI (T 3 e) = 0 := by rw [b0]; rfl
          obtain ⟨K', s1, s2, s3, s4⟩ := next I X hI hX (by omega)
          exact ⟨K', by simp only [m_X12_leads_j89, w8, w9, gd_t, Nat.reduceAdd, n2, c1, if_false, m_X12_leads_j106, o10, v8, v9, n5, c2, if_true, m_X12_leads_j208, s1], s2, s3, by omega⟩
      · have c1 : nI many < nI (T 1 i) := nI_lt (by omega) (by omega)
        rw [if_neg a, List.append_nil]
        obtain ⟨K', s1, s2, s3⟩ := stop I X hI hX (by omega)
        exact ⟨K', by simp only [m_X12_leads_j89, w8, w9, gd_t, Nat.reduceAdd, n2, c1, if_true, m_X12_leads_j106, m_X12_leads_j208, s1], s2, s3, by omega⟩
    rw [eR]
    unfold ldp
    by_cases x : T 0 i = c
    · have x' : nI (T 0 i) = nI c := by rw [x]
      by_cases y : many < T 2 i
      · have y' : ¬ nI (T 2 i) ≤ nI many := nI_ge y (by omega)
        rw [if_pos ⟨x, y⟩]
        have p1 : inb (0 : Int32) 64 = true := by decide
        have p2 : (0 : Int32).toNatClampNeg = 0 := by decide
        have p3 : nI pl + 1 = nI (100 * i + 10 * q + many + 1) := by rw [nI_1]; congr 1; omega
        have p4 : ms (ms K 196 35 0) 221 0 (nI (100 * i + 10 * q + many + 1)) 196 35 = 0 := by rw [ms_o (by omega), f35]
        have tp := t0.push (v := 100 * i + 10 * q + many + 1) (by simp)
        obtain ⟨K', s1, s2, s3, s4⟩ := rest _ _ (fun a b h1 h2 => by rw [ms_o (by omega), ms_o (by omega), ms_o (by omega)]) tp (by simp)
        have s1' : m_X12_leads_j89 196 (nI c) (nI i) (nI q) (nI many) (nI e) (ms (ms (ms K 196 35 0) 221 0 (nI (100 * i + 10 * q + many + 1))) 196 35 ((0 : Int32) + 1)) = some K' := s1
        exact ⟨K', by simp only [m_X12_leads, bnd, z, if_false, d1, d2, d3, w8, w9, gd_t, Nat.reduceAdd, m1', if_pos x', m3', y', f35, p1, p2, p3, p4, e200', s1'], s2, s3, s4⟩
      · have y' : nI (T 2 i) ≤ nI many := nI_le (by omega) (by omega)
        rw [if_neg (fun h => y h.2)]
        obtain ⟨K', s1, s2, s3, s4⟩ := rest _ _ f0 t0 (by simp)
        exact ⟨K', by simp only [m_X12_leads, bnd, z, if_false, d1, d2, d3, w8, w9, gd_t, Nat.reduceAdd, m1', if_pos x', m3', y', if_true, e200', s1], s2, s3, s4⟩
    · have x' : ¬ nI (T 0 i) = nI c := fun h => x ((nI_eq (by omega) (by omega)).mp h)
      rw [if_neg (fun h => x h.1)]
      obtain ⟨K', s1, s2, s3, s4⟩ := rest _ _ f0 t0 (by simp)
      exact ⟨K', by simp only [m_X12_leads, bnd, z, if_false, d1, d2, d3, w8, w9, gd_t, Nat.reduceAdd, m1', if_neg x', e200', s1], s2, s3, s4⟩
