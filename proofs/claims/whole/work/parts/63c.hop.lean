/-! the reference: canEnd, isSome, hopes -/
theorem skl_ok {K : Mem} {T : Nat → Nat → Nat} {ni ne e0 : Nat} {eo : Nat → Nat} {x : Bool} (hR : MR K T ni ne eo) (he0 : e0 ≤ ne) : m_X12_canEnd_j122 196 (bz x) (nI e0) K = some (bz (x && skA T ne (ne - e0))) := by
  have hS := hR.2.1
  have k1 := hS.2.1
  obtain ⟨b, f1, f2⟩ := loop_run (body := fun a => m_X12_canEnd_b125 196 a.1 a.2 K)
    (Inv := fun r a => ∃ e y, e0 ≤ e ∧ e ≤ ne ∧ r = ne - e ∧ a.2 = nI e ∧ a.1 = bz y ∧ (y && skA T ne (ne - e)) = (x && skA T ne (ne - e0)))
    (Post := fun b => b = bz (x && skA T ne (ne - e0))) (fun r a ⟨e, y, g1, g2, g3, g4, g5, g6⟩ => by
      obtain ⟨x2, x4⟩ := a
      simp only at g4 g5
      subst g4
      subst g5
      have c10 : K 196 10 = nI ne := hR.1.2.1
      by_cases z : e = ne
      · subst z
        have cc : nI e ≤ nI e := nI_le (by omega) (by omega)
        refine Or.inl ⟨bz y, by simp only [m_X12_canEnd_b125, c10, cc, if_true], ?_⟩
        rw [← g6, Nat.sub_self]
        simp [skA]
      · have hlt : e < ne := by omega
        have cc : ¬ nI ne ≤ nI e := nI_ge hlt (by omega)
        have e3 : nI e + 1 = nI (e + 1) := nI_1 e
        rw [show ne - e = (ne - (e + 1)) + 1 by omega] at g6
        simp only [skA] at g6
        rw [show ne - (ne - (e + 1) + 1) = e by omega] at g6
        cases y with
        | false =>
          refine Or.inr ⟨((0 : Int32), nI (e + 1)), ne - (e + 1), by omega, by simp only [m_X12_canEnd_b125, c10, cc, if_false, bz_f, if_true, m_X12_canEnd_j151, m_X12_canEnd_j152, e3], e + 1, false, by omega, by omega, rfl, rfl, rfl, ?_⟩
          rw [← g6]
          rfl
        | true =>
          have o10 : ¬ (1 : Int32) = 0 := by decide
          have sk := skip_ok hR hlt
          by_cases o : T 6 e = 0
          · rw [decide_eq_true o, bz_t] at sk
            refine Or.inr ⟨((1 : Int32), nI (e + 1)), ne - (e + 1), by omega, by simp only [m_X12_canEnd_b125, c10, cc, if_false, bz_t, o10, sk, Option.bind_some, m_X12_canEnd_j152, e3], e + 1, true, by omega, by omega, rfl, rfl, rfl, ?_⟩
            rw [← g6, decide_eq_true o]
            rfl
          · rw [decide_eq_false o, bz_f] at sk
            refine Or.inr ⟨((0 : Int32), nI (e + 1)), ne - (e + 1), by omega, by simp only [m_X12_canEnd_b125, c10, cc, if_false, bz_t, o10, sk, Option.bind_some, if_true, m_X12_canEnd_j151, m_X12_canEnd_j152, e3], e + 1, false, by omega, by omega, rfl, rfl, rfl, ?_⟩
            rw [← g6, decide_eq_false o]
            rfl) FU (ne - e0) (bz x, nI e0) (by unfold FU; omega) ⟨e0, x, by omega, he0, rfl, rfl, rfl, rfl⟩
  simp only [m_X12_canEnd_j122, f1, Option.bind_some, f2, okz_bz, gd_t]
theorem all_ok {K : Mem} {T : Nat → Nat → Nat} {ni ne e i : Nat} {eo : Nat → Nat} {x : Bool} (hR : MR K T ni ne eo) (he : e < ne) (hi : T 4 e ≤ i ∧ i < T 5 e) : m_X12_canEnd_j72 196 (nI i) (nI e) (bz x) K = some (bz (x && allo T (T 5 e - (i + 1)) (i + 1) && skA T ne (ne - (e + 1)))) := by
  have hS := hR.2.1
  have k0 := hS.1
  have k1 := hS.2.1
  have k := hS.2.2.2.1 e he
  have v8 : inb (nI e) 12 = true := inb_n (by omega) (by omega)
  have v9 : (nI e).toNatClampNeg = e := nI_clamp (by omega)
  have n7 : K 203 e = nI (T 5 e) - 1 := (hR.1.2.2.2.2 e he).2.2.1
  obtain ⟨b, f1, f2⟩ := loop_run (body := fun a => m_X12_canEnd_b79 196 (nI e) a.1 a.2 K)
    (Inv := fun r a => ∃ j y, i + 1 ≤ j ∧ j ≤ T 5 e ∧ r = T 5 e - j ∧ a.2 = nI j ∧ a.1 = bz y ∧ (y && allo T (T 5 e - j) j) = (x && allo T (T 5 e - (i + 1)) (i + 1)))
    (Post := fun b => b = bz (x && allo T (T 5 e - (i + 1)) (i + 1))) (fun r a ⟨j, y, g1, g2, g3, g4, g5, g6⟩ => by
      obtain ⟨x2, x6⟩ := a
      simp only at g4 g5
      subst g4
      subst g5
      by_cases z : j = T 5 e
      · have cc : nI (T 5 e) - 1 < nI j := (pm_iff (by omega) (by omega)).mpr (by omega)
        refine Or.inl ⟨bz y, by simp only [m_X12_canEnd_b79, v8, v9, gd_t, Nat.reduceAdd, n7, cc, if_true], ?_⟩
        rw [← g6, z, Nat.sub_self]
        simp [allo]
      · have cc : ¬ nI (T 5 e) - 1 < nI j := fun h => by have := (pm_iff (by omega) (by omega)).mp h; omega
        have e3 : nI j + 1 = nI (j + 1) := nI_1 j
        rw [show T 5 e - j = (T 5 e - (j + 1)) + 1 by omega] at g6
        simp only [allo] at g6
        cases y with
        | false =>
          refine Or.inr ⟨((0 : Int32), nI (j + 1)), T 5 e - (j + 1), by omega, by simp only [m_X12_canEnd_b79, v8, v9, gd_t, Nat.reduceAdd, n7, cc, if_false, bz_f, if_true, m_X12_canEnd_j109, m_X12_canEnd_j110, e3], j + 1, false, by omega, by omega, rfl, rfl, rfl, ?_⟩
          rw [← g6]
          rfl
        | true =>
          have o10 : ¬ (1 : Int32) = 0 := by decide
          have w8 : inb (nI j) 10 = true := inb_n (by omega) (by omega)
          have w9 : (nI j).toNatClampNeg = j := nI_clamp (by omega)
          have l2 : K 198 j = nI (T 1 j) := (hR.1.2.2.2.1 j (by omega)).2.1
          have t := hS.2.2.1 j (by omega)
          by_cases o : T 1 j = 0
          · have o' : nI (T 1 j) = 0 := by rw [o]; rfl
            refine Or.inr ⟨((1 : Int32), nI (j + 1)), T 5 e - (j + 1), by omega, by simp only [m_X12_canEnd_b79, v8, v9, gd_t, Nat.reduceAdd, n7, cc, if_false, bz_t, o10, w8, w9, l2, if_pos o', m_X12_canEnd_j110, e3], j + 1, true, by omega, by omega, rfl, rfl, rfl, ?_⟩
            rw [← g6, decide_eq_true o]
            rfl
          · have o' : ¬ nI (T 1 j) = 0 := nI_ne0 (by omega) (by omega)
            refine Or.inr ⟨((0 : Int32), nI (j + 1)), T 5 e - (j + 1), by omega, by simp only [m_X12_canEnd_b79, v8, v9, gd_t, Nat.reduceAdd, n7, cc, if_false, bz_t, o10, w8, w9, l2, if_neg o', m_X12_canEnd_j109, m_X12_canEnd_j110, e3], j + 1, false, by omega, by omega, rfl, rfl, rfl, ?_⟩
            rw [← g6, decide_eq_false o]
            rfl) FU (T 5 e - (i + 1)) (bz x, nI (i + 1)) (by unfold FU; omega) ⟨i + 1, x, by omega, by omega, rfl, rfl, rfl, rfl⟩
  have e3 : nI i + 1 = nI (i + 1) := nI_1 i
  have e4 : nI e + 1 = nI (e + 1) := nI_1 e
  have sk := skl_ok (x := x && allo T (T 5 e - (i + 1)) (i + 1)) hR (show e + 1 ≤ ne by omega)
  simp only [m_X12_canEnd_j72, e3, f1, Option.bind_some, f2, e4, sk]
theorem canEnd_ok {K : Mem} {T : Nat → Nat → Nat} {ni ne pl : Nat} {eo : Nat → Nat} (hR : MR K T ni ne eo) (hp : PV ni pl) : m_X12_canEnd 196 (nI pl) K = some (bz (if pl = 1000 then skA T ne ne else cde T ne (eo (pl / 100)) (pl / 100) (pl / 10 % 10) (pl % 10))) := by
  obtain ⟨hM, hS, hEO, h200⟩ := id hR
  have k0 := hS.1
  have k1 := hS.2.1
  rcases hp with rfl | ⟨hp1, hp2⟩
  · have z : nI 1000 = 1000 := rfl
    have sk : m_X12_canEnd_j122 196 (1 : Int32) (0 : Int32) K = some (bz (true && skA T ne (ne - 0))) := skl_ok (x := true) (e0 := 0) hR (by omega)
    simp only [m_X12_canEnd, z, if_true, sk, Bool.true_and, Nat.sub_zero]
  · obtain ⟨d1, d2, d3⟩ := code_n hp1
    rw [if_neg (show ¬ pl = 1000 by omega)]
    generalize hi : pl / 100 = i at *
    generalize hq : pl / 10 % 10 = q at *
    generalize hm : pl % 10 = many at *
    have hq9 : q ≤ 9 := by omega
    have hm9 : many ≤ 9 := by omega
    obtain ⟨e200, he, ha, hb⟩ := h200 i hp2
    generalize hee : eo i = e at *
    have k := hS.2.2.2.1 e he
    have t := hS.2.2.1 i hp2
    have z : ¬ nI pl = 1000 := fun h => by have := (nI_eq (b := 1000) (by omega) (by omega)).mp h; omega
    have w8 : inb (nI i) 10 = true := inb_n (by omega) (by omega)
    have w9 : (nI i).toNatClampNeg = i := nI_clamp (by omega)
    have v8 : inb (nI e) 12 = true := inb_n (by omega) (by omega)
    have v9 : (nI e).toNatClampNeg = e := nI_clamp (by omega)
    obtain ⟨m1, m2, m3⟩ := hM.2.2.2.1 i hp2
    obtain ⟨l1, l2, l3, l4, l5, l6⟩ := hM.2.2.2.2 e he
    have At : m_X12_canEnd_j72 196 (nI i) (nI e) 1 K = some (bz (true && allo T (T 5 e - (i + 1)) (i + 1) && skA T ne (ne - (e + 1)))) := all_ok (x := true) hR he ⟨ha, hb⟩
    have Af : m_X12_canEnd_j72 196 (nI i) (nI e) 0 K = some (bz (false && allo T (T 5 e - (i + 1)) (i + 1) && skA T ne (ne - (e + 1)))) := all_ok (x := false) hR he ⟨ha, hb⟩
    unfold cde
    by_cases a : T 1 i ≤ many
    · have c1 : ¬ nI many < nI (T 1 i) := nI_nlt a (by omega)
      by_cases b : T 3 e = 1
      · have c2 : ¬ nI (T 3 e) = 0 := nI_ne0 (by omega) (by omega)
        rw [if_pos b] at l4
        by_cases f : T 6 e ≤ q
        · have c4 : ¬ nI q < nI (T 6 e) := nI_nlt f (by omega)
          simp only [m_X12_canEnd, z, if_false, d1, d2, d3, w8, w9, gd_t, Nat.reduceAdd, m2, c1, e200, v8, v9, l1, c2, l4, c4, m_X12_canEnd_j67, At]
          simp [a, f]
        · have c4 : nI q < nI (T 6 e) := nI_lt (by omega) (by omega)
          simp only [m_X12_canEnd, z, if_false, d1, d2, d3, w8, w9, gd_t, Nat.reduceAdd, m2, c1, e200, v8, v9, l1, c2, l4, c4, if_true, m_X12_canEnd_j71, Af]
          simp [a, f, b]
      · have c2 : nI (T 3 e) = 0 := by rw [show T 3 e = 0 by omega]; rfl
        simp only [m_X12_canEnd, z, if_false, d1, d2, d3, w8, w9, gd_t, Nat.reduceAdd, m2, c1, e200, v8, v9, l1, c2, if_true, m_X12_canEnd_j67, At]
        simp [a, b]
    · have c1 : nI many < nI (T 1 i) := nI_lt (by omega) (by omega)
      simp only [m_X12_canEnd, z, if_false, d1, d2, d3, w8, w9, gd_t, Nat.reduceAdd, m2, c1, if_true, e200, m_X12_canEnd_j71, Af]
      simp [a]
theorem ent_lt {T : Nat → Nat → Nat} {c q x : Nat} (hq : q ≤ 9) : ∀ d j, j + d ≤ 10 → x ∈ ent T c q d j → x < 1000 := by
  intro d j h hx
  rw [mem_ent] at hx
  obtain ⟨i, _, _, _, _, e⟩ := hx
  omega
theorem rst_lt {T : Nat → Nat → Nat} {ni ne c x : Nat} (hS : SF T ni ne) : ∀ d e, e + d = ne → x ∈ rst T ne c (ne - e) → x < 1000 := by
  intro d
  induction d with
  | zero => intro e h hx; rw [show ne - e = 0 by omega] at hx; simp [rst] at hx
  | succ d ih =>
    intro e h hx
    have k := hS.2.2.2.1 e (by omega)
    have k0 := hS.1
    rw [rst_e (by omega), List.mem_append] at hx
    rcases hx with hx | hx
    · exact ent_lt (qq_le hS (by omega) (by omega)) _ _ (by omega) hx
    · split at hx
      · exact ih (e + 1) (by omega) hx
      · simp at hx
theorem ldc_lt {K : Mem} {T : Nat → Nat → Nat} {ni ne pl c x : Nat} {eo : Nat → Nat} (hR : MR K T ni ne eo) (hp : PV ni pl) (hx : x ∈ ldc T ne eo pl c) : x < 1000 := by
  obtain ⟨hM, hS, hEO, h200⟩ := hR
  have k0 := hS.1
  rcases hp with rfl | ⟨hp1, hp2⟩
  · rw [ldc, if_pos rfl] at hx
    exact rst_lt hS ne 0 (by omega) (by rwa [Nat.sub_zero])
  · rw [ldc, if_neg (by omega)] at hx
    obtain ⟨e200, he, ha, hb⟩ := h200 (pl / 100) hp2
    have k := hS.2.2.2.1 _ he
    have t := hS.2.2.1 _ hp2
    unfold ldp at hx
    rw [List.mem_append] at hx
    rcases hx with hx | hx
    · split at hx
      · rw [List.mem_singleton] at hx; omega
      · simp at hx
    · split at hx
      · split at hx
        · rw [List.mem_append] at hx
          rcases hx with hx | hx
          · exact ent_lt (by omega) _ _ (by omega) hx
          · split at hx
            · rw [List.mem_append] at hx
              rcases hx with hx | hx
              · split at hx
                · exact ent_lt (by omega) _ _ (by omega) hx
                · simp at hx
              · split at hx
                · exact rst_lt hS (ne - (eo (pl / 100) + 1)) _ (by omega) hx
                · simp at hx
            · simp at hx
        · exact rst_lt hS (ne - (eo (pl / 100) + 1)) _ (by omega) hx
      · simp at hx
/-- the table of hopes at k -/
def HT (K : Mem) (k : Nat) (F : Nat → Bool) : Prop := ∀ pl, pl ≤ 1000 → K 220 (1001 * k + pl) = bz (F pl)
theorem hx_n {k x : Nat} (hk : k ≤ 18) (hx : x ≤ 1000) : (1001 : Int32) * nI k + nI x = nI (1001 * k + x) ∧ inb (nI (1001 * k + x)) 19019 = true ∧ (nI (1001 * k + x)).toNatClampNeg = 1001 * k + x := by
  have h : (1001 : Int32) * nI k = nI (1001 * k) := pk_mul 1001 k
  exact ⟨by rw [h, nI_add], inb_n (by omega) (by omega), nI_clamp (by omega)⟩
theorem getD_mem {l : List Nat} {x : Nat} (h : x < l.length) : l.getD x 0 ∈ l := by
  rw [List.getD_eq_getElem?_getD, List.getElem?_eq_getElem h]
  exact List.getElem_mem h
theorem isSome_ok {K : Mem} {l : List Nat} {F : Nat → Bool} {k : Nat} (hl : TgL K l) (hF : HT K k F) (hk : k ≤ 18) (hlen : l.length ≤ 40) (hlt : ∀ x, x ∈ l → x < 1000) : m_X12_isSome 196 (nI k) K = some (bz (l.any F)) := by
  obtain ⟨b, f1, f2⟩ := loop_run (body := fun a => m_X12_isSome_b4 196 (nI k) a.1 a.2 K)
    (Inv := fun r a => ∃ x, x ≤ l.length ∧ r = l.length - x ∧ a.2 = nI x ∧ a.1 = bz ((l.take x).any F)) (Post := fun b => b = bz (l.any F)) (fun r a ⟨x, g1, g2, g3, g4⟩ => by
      obtain ⟨x2, x3⟩ := a
      simp only at g3 g4
      subst g3
      subst g4
      have c35 := hl.1
      by_cases z : x = l.length
      · have cc : nI l.length ≤ nI x := nI_le (by omega) (by omega)
        refine Or.inl ⟨bz ((l.take x).any F), by simp only [m_X12_isSome_b4, c35, cc, if_true], ?_⟩
        rw [z, List.take_length]
      · have hx : x < l.length := by omega
        have cc : ¬ nI l.length ≤ nI x := nI_ge hx (by omega)
        have e3 : nI x + 1 = nI (x + 1) := nI_1 x
        have tk : (l.take (x + 1)).any F = ((l.take x).any F || F (l.getD x 0)) := by
          rw [List.take_add_one, List.any_append, List.getD_eq_getElem?_getD, List.getElem?_eq_getElem hx]
          simp
        cases q : (l.take x).any F with
        | true =>
          have o10 : ¬ (1 : Int32) = 0 := by decide
          refine Or.inr ⟨((1 : Int32), nI (x + 1)), l.length - (x + 1), by omega, by simp only [m_X12_isSome_b4, c35, cc, if_false, bz_t, o10, m_X12_isSome_j36, m_X12_isSome_j41, e3], x + 1, by omega, rfl, rfl, ?_⟩
          rw [tk, q]
          rfl
        | false =>
          have w8 : inb (nI x) 64 = true := inb_n (by omega) (by omega)
          have w9 : (nI x).toNatClampNeg = x := nI_clamp (by omega)
          have tx := hl.2 x hx
          have hm := hlt _ (getD_mem hx)
          obtain ⟨a1, a2, a3⟩ := hx_n hk (show l.getD x 0 ≤ 1000 by omega)
          have hv := hF (l.getD x 0) (by omega)
          cases v : F (l.getD x 0) with
          | true =>
            have o10 : ¬ (1 : Int32) = 0 := by decide
            rw [v, bz_t] at hv
            refine Or.inr ⟨((1 : Int32), nI (x + 1)), l.length - (x + 1), by omega, by simp only [m_X12_isSome_b4, c35, cc, if_false, bz_f, if_true, w8, w9, gd_t, Nat.reduceAdd, tx, a1, a2, a3, hv, o10, m_X12_isSome_j36, m_X12_isSome_j41, e3], x + 1, by omega, rfl, rfl, ?_⟩
            rw [tk, q, v]
            rfl
          | false =>
            rw [v, bz_f] at hv
            refine Or.inr ⟨((0 : Int32), nI (x + 1)), l.length - (x + 1), by omega, by simp only [m_X12_isSome_b4, c35, cc, if_false, bz_f, if_true, w8, w9, gd_t, Nat.reduceAdd, tx, a1, a2, a3, hv, m_X12_isSome_j41, e3], x + 1, by omega, rfl, rfl, ?_⟩
            rw [tk, q, v]
            rfl) FU l.length ((0 : Int32), (0 : Int32)) (by unfold FU; omega) ⟨0, by omega, rfl, rfl, by simp; rfl⟩
  simp only [m_X12_isSome, f1, Option.bind_some, f2, okz_bz, gd_t]
