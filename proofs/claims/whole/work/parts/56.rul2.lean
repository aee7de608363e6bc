theorem needRule_ok {I : Mem} {nr : Nat} (h : RulsP I nr) (p : Int32) : (m_X11_needRule 0 p I = some (.inr 2, I) ∧ ∀ J, Agr I J → m_X12_in p 0 (J 196 42 - 1) J = some 0) ∨ ∃ r, r < nr ∧ p = nI r ∧ m_X11_needRule 0 p I = some (.inl (), I) ∧ (∀ J, Agr I J → m_X12_in p 0 (J 196 42 - 1) J = some 1) ∧ m_X7_at 38 p I = some (42 + 2 * r) := by
  obtain ⟨r1, r2, r3, r4⟩ := h
  rcases ix_or p (n := nr) (by omega) with c | ⟨c0, c1, c2, c3⟩ | ⟨j, hj, rfl, c0, c1, c2, c3⟩
  · exact Or.inl ⟨by simp [m_X11_needRule, c, m_X11_needRule_j15], fun J hJ => by simp [m_X12_in, c]⟩
  · exact Or.inl ⟨by simp [m_X11_needRule, c0, m_X7_count, r2, c2, m_X11_needRule_j15], fun J hJ => by simp [m_X12_in, c0, hJ 196 42 (by omega), r3, c3]⟩
  · have e3 : inb (nI j) 10 = true := inb_n (by omega) (by omega)
    have e4 : (nI j).toNatClampNeg = j := nI_clamp (by omega)
    have a1 : 39 + (3 + 2 * j) = 42 + 2 * j := by omega
    exact Or.inr ⟨j, hj, rfl, by simp [m_X11_needRule, c0, m_X7_count, r2, c2], fun J hJ => by simp [m_X12_in, c0, hJ 196 42 (by omega), r3, c3], by simp [m_X7_at, c0, r2, c1, e3, e4, gd_t, a1]⟩
theorem op_addField {I : Mem} (hI : Inv I) (p p2 : Int32) : OKc (caseA (wrE hv_addField (m_X11_addField 0 p p2 I)) (fun I => m_X12_addField 196 p p2 I)) := by
  obtain ⟨nr, hr⟩ := hI.2.2.2.2.2.2.1
  rcases needRule_ok hr p with ⟨q1, q2⟩ | ⟨r, hlt, rfl, q1, q2, q3⟩
  · exact opA_ex (c := 1) (k := 2) (I1 := I) (I2 := ms I 196 48 1) (v := 0) (by simp [m_X11_addField, q1, obx]) rfl (by decide) (by simp [m_X12_addField, q2 I (fun _ _ _ => rfl), m_X12_addField_j47, m_X12_isFine, bnd]) (ms_s rfl rfl) hI.thr
  obtain ⟨r1, r2, r3, r4⟩ := hr
  obtain ⟨h1, h2, ⟨q0, h3, h3', h3''⟩, ⟨f, h4, h5, h6, h7⟩, h8⟩ := r4 r hlt
  have e5 : inb (nI r) 10 = true := inb_n (by omega) (by omega)
  have e6 : (nI r).toNatClampNeg = r := nI_clamp (by omega)
  have q2' := q2 I (fun _ _ _ => rfl)
  by_cases c1 : p2 < 0
  · exact opA_ex (c := 2) (k := 0) (I1 := I) (I2 := ms I 196 48 2) (v := 0) (by simp [m_X11_addField, q1, obx, m_X11_addField_j5, c1, m_X11_addField_j14]) rfl (by decide) (by simp only [m_X12_addField, q2']; simp [m_X12_in, c1, m_X12_addField_j47, m_X12_isFine, bnd]) (ms_s rfl rfl) hI.thr
  by_cases c2 : 4 < p2
  · have c2' : ¬ p2 < 5 := by
      rw [Int32.lt_iff_toInt_lt] at c2 ⊢
      have : (4 : Int32).toInt = 4 := rfl
      have : (5 : Int32).toInt = 5 := rfl
      omega
    exact opA_ex (c := 2) (k := 0) (I1 := I) (I2 := ms I 196 48 2) (v := 0) (by simp [m_X11_addField, q1, obx, m_X11_addField_j5, c1, c2', m_X11_addField_j14]) rfl (by decide) (by simp only [m_X12_addField, q2']; simp [m_X12_in, c1, c2, m_X12_addField_j47, m_X12_isFine, bnd]) (ms_s rfl rfl) hI.thr
  obtain ⟨e, -, he, rfl⟩ := rng (a := 0) (b := 4) rfl rfl (by omega) c1 c2 (by omega)
  have c2' : nI e < 5 := nI_lt (b := 5) (by omega) (by omega)
  have io := io_rul r (by omega)
  by_cases hf : f = 5
  · have g1 : ¬ nI f < 5 := by rw [hf]; decide
    have g2 : nI f = 5 := by rw [hf]; decide
    exact opA_ex (c := 3) (k := 1) (I1 := I) (I2 := ms I 196 48 3) (v := 0) (by simp [m_X11_addField, q1, obx, m_X11_addField_j5, c1, c2', q3, io, gd_t, m_X6_fieldCount, h5, g1]) rfl (by decide) (by simp only [m_X12_addField, q2']; simp [m_X12_in, c1, c2, e5, e6, gd_t, h6, g2, m_X12_addField_j47, m_X12_isFine, bnd]) (ms_s rfl rfl) hI.thr
  · have g1 : nI f < 5 := nI_lt (b := 5) (by omega) (by omega)
    have g1' : ¬ 5 ≤ nI f := nI_ge (b := 5) (by omega) (by omega)
    have g2 : ¬ nI f = 5 := fun h => absurd ((nI_eq (b := 5) (by omega) (by omega)).mp h) (by omega)
    have e3 : inb (nI f) 5 = true := inb_n (by omega) (by omega)
    have e4 : (nI f).toNatClampNeg = f := nI_clamp (by omega)
    have a1 : 42 + 2 * r + 1 = 43 + 2 * r := by omega
    have a2 : ¬ 196 = 42 + 2 * r := by omega
    have a3 : ¬ 196 = 43 + 2 * r := by omega
    have a4 : ¬ 42 + 2 * r = 43 + 2 * r := by omega
    have a5 : ¬ 224 = 42 + 2 * r := by omega
    have a6 : ¬ 224 = 43 + 2 * r := by omega
    have a7 : ¬ 230 = 42 + 2 * r := by omega
    have a8 : ¬ 230 = 43 + 2 * r := by omega
    have x1 : (5 : Int32) * nI r + nI f = nI (5 * r + f) := by
      have : (5 : Int32) * nI r = nI (5 * r) := pk_mul 5 r
      rw [this, nI_add]
    have x2 : inb (nI (5 * r + f)) 50 = true := inb_n (by omega) (by omega)
    have x3 : (nI (5 * r + f)).toNatClampNeg = 5 * r + f := nI_clamp (by omega)
    have d1 : m_X12_in (nI r) 0 (nI nr - 1) (ms (ms (ms I (43 + 2 * r) f (nI e)) (42 + 2 * r) 3 (nI f + 1)) 230 0 (nI f + 1)) = some 1 := by
      have := q2 I (fun _ _ _ => rfl)
      rw [r3] at this
      simpa [m_X12_in] using this
    refine opA_ok (v := nI f + 1) (I1 := ms (ms I (43 + 2 * r) f (nI e)) (42 + 2 * r) 3 (nI f + 1)) (I2 := ms (ms (ms (ms (ms (ms I (43 + 2 * r) f (nI e)) (42 + 2 * r) 3 (nI f + 1)) 230 0 (nI f + 1)) 196 48 0) 225 (5 * r + f) (nI e)) 224 r (nI f + 1)) ?_ ?_ ?_ ?_ ?_
    · simp [m_X11_addField, q1, obx, m_X11_addField_j5, c1, c2', q3, io, gd_t, m_X6_fieldCount, h5, g1, m_X6_appendField, g1', e3, e4, bnd, a1, ms_app, a4, m_X6_appendField_j28]
    · have hb : ms (ms (ms I (43 + 2 * r) f (nI e)) (42 + 2 * r) 3 (nI f + 1)) 230 0 (nI f + 1) 196 42 = nI nr := by simp [ms_app, a2, a3, r3]
      simp only [m_X12_addField, hb, d1]
      simp [m_X12_in, c1, c2, e5, e6, gd_t, ms_app, a5, a6, h6, g2, m_X12_addField_j47, m_X12_isFine, bnd, x1, x2, x3]
    · simp [ms_app]
    · simp [ms_app]
    · refine hI.rul (fun a b hd => ?_) ⟨nr, r1, ?_, ?_, fun r' hr' => ?_⟩
      · unfold DRul at hd
        simp only [ms_app]
        repeat rw [if_neg (by omega)]
      · have b1 : ¬ 38 = 42 + 2 * r := by omega
        have b2 : ¬ 38 = 43 + 2 * r := by omega
        simp [ms_app, b1, b2, r2]
      · simp [ms_app, a2, a3, r3]
      · have w : ∀ a b, ¬ (a = 43 + 2 * r ∧ b = f) → ¬ (a = 42 + 2 * r ∧ b = 3) → ¬ a = 230 → ¬ (a = 196 ∧ b = 48) → ¬ (a = 225 ∧ b = 5 * r + f) → ¬ (a = 224 ∧ b = r) → ms (ms (ms (ms (ms (ms I (43 + 2 * r) f (nI e)) (42 + 2 * r) 3 (nI f + 1)) 230 0 (nI f + 1)) 196 48 0) 225 (5 * r + f) (nI e)) 224 r (nI f + 1) a b = I a b := fun a b z1 z2 z3 z4 z5 z6 => by
          simp only [ms_app]
          repeat rw [if_neg (by omega)]
        obtain ⟨h1, h2, ⟨q0, h3, h3', h3''⟩, ⟨f', h4', h5', h6', h7'⟩, h8'⟩ := r4 r' hr'
        refine ⟨by rw [w _ _ (by omega) (by omega) (by omega) (by omega) (by omega) (by omega), w _ _ (by omega) (by omega) (by omega) (by omega) (by omega) (by omega), h1], by rw [w _ _ (by omega) (by omega) (by omega) (by omega) (by omega) (by omega), w _ _ (by omega) (by omega) (by omega) (by omega) (by omega) (by omega), h2], ⟨q0, h3, h3', by rw [w _ _ (by omega) (by omega) (by omega) (by omega) (by omega) (by omega), h3'']⟩, ?_, ?_⟩
        · by_cases x : r' = r
          · subst x
            have ef : f' = f := by
              have := h5'.symm.trans h5
              exact (nI_eq (by omega) (by omega)).mp this
            subst ef
            refine ⟨f' + 1, by omega, by simp [ms_app, nI_1]; omega, by simp [ms_app, nI_1], fun x hx => ?_⟩
            by_cases y : x = f'
            · subst y
              exact ⟨e, by omega, by simp only [ms_app]; rw [if_neg (by omega), if_neg (by omega), if_neg (by omega), if_neg (by omega), if_neg (by omega), if_pos (by simp)], by simp [ms_app]⟩
            · obtain ⟨q, y1, y2, y3⟩ := h7' x (by omega)
              exact ⟨q, y1, by rw [w _ _ (by omega) (by omega) (by omega) (by omega) (by omega) (by omega), y2], by rw [w _ _ (by omega) (by omega) (by omega) (by omega) (by omega) (by omega), y3]⟩
          · refine ⟨f', h4', by rw [w _ _ (by omega) (by omega) (by omega) (by omega) (by omega) (by omega), h5'], by rw [w _ _ (by omega) (by omega) (by omega) (by omega) (by omega) (by omega), h6'], fun x hx => ?_⟩
            obtain ⟨q, y1, y2, y3⟩ := h7' x hx
            exact ⟨q, y1, by rw [w _ _ (by omega) (by omega) (by omega) (by omega) (by omega) (by omega), y2], by rw [w _ _ (by omega) (by omega) (by omega) (by omega) (by omega) (by omega), y3]⟩
        · rcases h8' with ⟨y1, y2⟩ | ⟨q, y1, y2, y3, y4⟩
          · exact Or.inl ⟨by rw [w _ _ (by omega) (by omega) (by omega) (by omega) (by omega) (by omega), y1], by rw [w _ _ (by omega) (by omega) (by omega) (by omega) (by omega) (by omega), y2]⟩
          · exact Or.inr ⟨q, y1, by rw [w _ _ (by omega) (by omega) (by omega) (by omega) (by omega) (by omega), y2], by rw [w _ _ (by omega) (by omega) (by omega) (by omega) (by omega) (by omega), y3], by rw [w _ _ (by omega) (by omega) (by omega) (by omega) (by omega) (by omega), w _ _ (by omega) (by omega) (by omega) (by omega) (by omega) (by omega), y4]⟩
theorem op_setCondition {I : Mem} (hI : Inv I) (p p2 : Int32) (t : Nat) (ht : t < 65536) : OKc (caseB (wrU hv_setCondition (m_X11_setCondition 0 p p2 (nI t) I)) (fun I => m_X12_setCondition 196 p p2 (nI t) I)) := by
  obtain ⟨nr, hr⟩ := hI.2.2.2.2.2.2.1
  have bad2 : m_X12_in p 0 (I 196 42 - 1) I = some 0 → m_X12_setCondition 196 p p2 (nI t) I = some (ms I 196 48 1) := fun z => by
    unfold m_X12_setCondition m_X12_setCondition_j24 m_X12_setCondition_j25
    by_cases c1 : p2 < 0
    · simp only [m_X12_in, c1] at z ⊢
      simp [z, m_X12_setCondition_j56, m_X12_isFine, bnd]
    · by_cases c2 : 4 < p2
      · have e : m_X12_in p2 0 4 I = some 0 := by simp [m_X12_in, c1, c2]
        simp [e, z, m_X12_setCondition_j56, m_X12_isFine, bnd]
      · have e : m_X12_in p2 0 4 I = some 1 := by simp [m_X12_in, c1, c2]
        by_cases c3 : m_X12_in (nI t) 32 126 I = some 0
        · simp [e, c3, z, m_X12_setCondition_j56, m_X12_isFine, bnd]
        · have c3' : m_X12_in (nI t) 32 126 I = some 1 := by
            unfold m_X12_in at c3 ⊢
            split <;> simp_all
          simp [e, c3', z, m_X12_setCondition_j56, m_X12_isFine, bnd]
  rcases needRule_ok hr p with ⟨q1, q2⟩ | ⟨r, hlt, rfl, q1, q2, q3⟩
  · exact opB_ex (c := 1) (k := 2) (I1 := I) (I2 := ms I 196 48 1) (by simp [m_X11_setCondition, q1, obx]) rfl (bad2 (q2 I (fun _ _ _ => rfl))) (ms_s rfl rfl) hI.thr
  obtain ⟨r1, r2, r3, r4⟩ := hr
  have e5 : inb (nI r) 10 = true := inb_n (by omega) (by omega)
  have e6 : (nI r).toNatClampNeg = r := nI_clamp (by omega)
  have io := io_rul r (by omega)
  have q2' := q2 I (fun _ _ _ => rfl)
  have bad : m_X11_setCondition_j5 0 (nI r) p2 (nI t) I = some (.inr 0, I) → m_X12_setCondition 196 (nI r) p2 (nI t) I = some (ms I 196 48 2) → OKc (caseB (wrU hv_setCondition (m_X11_setCondition 0 (nI r) p2 (nI t) I)) (fun I => m_X12_setCondition 196 (nI r) p2 (nI t) I)) := fun z1 z2 =>
    opB_ex (c := 2) (k := 0) (I1 := I) (by simp [m_X11_setCondition, q1, obx, z1]) rfl z2 (ms_s rfl rfl) hI.thr
  by_cases c1 : p2 < 0
  · have z : m_X12_in p2 0 4 I = some 0 := by simp [m_X12_in, c1]
    exact bad (by simp [m_X11_setCondition_j5, c1, m_X11_setCondition_j21]) (by simp only [m_X12_setCondition, z]; simp [m_X12_setCondition_j24, m_X12_setCondition_j25, q2', m_X12_setCondition_j56, m_X12_isFine, bnd])
  by_cases c2 : 4 < p2
  · have c2' : 5 ≤ p2 := by
      rw [Int32.lt_iff_toInt_lt] at c2
      rw [Int32.le_iff_toInt_le]
      have : (4 : Int32).toInt = 4 := rfl
      have : (5 : Int32).toInt = 5 := rfl
      omega
    have z : m_X12_in p2 0 4 I = some 0 := by simp [m_X12_in, c1, c2]
    exact bad (by simp [m_X11_setCondition_j5, c1, c2', m_X11_setCondition_j21]) (by simp only [m_X12_setCondition, z]; simp [m_X12_setCondition_j24, m_X12_setCondition_j25, q2', m_X12_setCondition_j56, m_X12_isFine, bnd])
  obtain ⟨e, -, he, rfl⟩ := rng (a := 0) (b := 4) rfl rfl (by omega) c1 c2 (by omega)
  have c2' : ¬ 5 ≤ nI e := nI_ge (b := 5) (by omega) (by omega)
  have z : m_X12_in (nI e) 0 4 I = some 1 := by simp [m_X12_in, c1, c2]
  by_cases c3 : nI t < 32
  · have z3 : m_X12_in (nI t) 32 126 I = some 0 := by simp [m_X12_in, c3]
    exact bad (by simp [m_X11_setCondition_j5, c1, c2', m_X11_setCondition_j21, m_X11_isLetter, c3]) (by simp only [m_X12_setCondition, z, z3]; simp [z3, m_X12_setCondition_j24, m_X12_setCondition_j25, q2', m_X12_setCondition_j56, m_X12_isFine, bnd])
  by_cases c4 : 126 < nI t
  · have z3 : m_X12_in (nI t) 32 126 I = some 0 := by simp [m_X12_in, c3, c4]
    exact bad (by simp [m_X11_setCondition_j5, c1, c2', m_X11_setCondition_j21, m_X11_isLetter, c3, c4]) (by simp only [m_X12_setCondition, z, z3]; simp [z3, m_X12_setCondition_j24, m_X12_setCondition_j25, q2', m_X12_setCondition_j56, m_X12_isFine, bnd])
  have hp : okc (nI t) = true := okc_n' ht
  have z3 : ∀ J, m_X12_in (nI t) 32 126 J = some 1 := fun J => by simp [m_X12_in, c3, c4]
  have a2 : ¬ 196 = 42 + 2 * r := by omega
  have d1 : m_X12_in (nI r) 0 (nI nr - 1) (ms (ms I (42 + 2 * r) 4 (nI e)) (42 + 2 * r) 5 (nI t)) = some 1 := by
    rw [r3] at q2'
    simpa [m_X12_in] using q2'
  refine opB_ok (I1 := ms (ms I (42 + 2 * r) 4 (nI e)) (42 + 2 * r) 5 (nI t)) (I2 := ms (ms (ms (ms (ms I (42 + 2 * r) 4 (nI e)) (42 + 2 * r) 5 (nI t)) 196 48 0) 226 r (nI e)) 227 r (nI t)) ?_ ?_ ?_ ?_
  · simp [m_X11_setCondition, q1, obx, m_X11_setCondition_j5, c1, c2', m_X11_isLetter, c3, c4, q3, io, gd_t, m_X6_restrict, bnd, hp]
  · have hb : ms (ms I (42 + 2 * r) 4 (nI e)) (42 + 2 * r) 5 (nI t) 196 42 = nI nr := by simp [ms_app, a2, r3]
    have z' : m_X12_in (nI e) 0 4 (ms (ms I (42 + 2 * r) 4 (nI e)) (42 + 2 * r) 5 (nI t)) = some 1 := by simp [m_X12_in, c1, c2]
    simp only [m_X12_setCondition, z', Option.bind_some, z3]
    simp [m_X12_setCondition_j25, hb, d1, m_X12_setCondition_j56, m_X12_isFine, bnd, e5, e6, gd_t, hp]
  · simp [ms_app]
  · refine hI.rul (fun a b hd => ?_) ⟨nr, r1, ?_, ?_, fun r' hr' => ?_⟩
    · unfold DRul at hd
      simp only [ms_app]
      repeat rw [if_neg (by omega)]
    · have b1 : ¬ 38 = 42 + 2 * r := by omega
      simp [ms_app, b1, r2]
    · simp [ms_app, a2, r3]
    · have w : ∀ a b, ¬ (a = 42 + 2 * r ∧ 4 ≤ b ∧ b ≤ 5) → ¬ (a = 196 ∧ b = 48) → ¬ (226 ≤ a ∧ a ≤ 227 ∧ b = r) → ms (ms (ms (ms (ms I (42 + 2 * r) 4 (nI e)) (42 + 2 * r) 5 (nI t)) 196 48 0) 226 r (nI e)) 227 r (nI t) a b = I a b := fun a b y1 y2 y3 => by
        simp only [ms_app]
        repeat rw [if_neg (by omega)]
      obtain ⟨h1, h2, ⟨q0, h3, h3', h3''⟩, ⟨f', h4', h5', h6', h7'⟩, h8'⟩ := r4 r' hr'
      refine ⟨by rw [w _ _ (by omega) (by omega) (by omega), w _ _ (by omega) (by omega) (by omega), h1], by rw [w _ _ (by omega) (by omega) (by omega), w _ _ (by omega) (by omega) (by omega), h2], ⟨q0, h3, h3', by rw [w _ _ (by omega) (by omega) (by omega), h3'']⟩, ⟨f', h4', by rw [w _ _ (by omega) (by omega) (by omega), h5'], by rw [w _ _ (by omega) (by omega) (by omega), h6'], fun x hx => ?_⟩, ?_⟩
      · obtain ⟨q, y1, y2, y3⟩ := h7' x hx
        exact ⟨q, y1, by rw [w _ _ (by omega) (by omega) (by omega), y2], by rw [w _ _ (by omega) (by omega) (by omega), y3]⟩
      · by_cases x : r' = r
        · subst x
          exact Or.inr ⟨e, by omega, by simp [ms_app]; omega, by simp [ms_app], by simp [ms_app]; omega⟩
        · rcases h8' with ⟨y1, y2⟩ | ⟨q, y1, y2, y3, y4⟩
          · exact Or.inl ⟨by rw [w _ _ (by omega) (by omega) (by omega), y1], by rw [w _ _ (by omega) (by omega) (by omega), y2]⟩
          · exact Or.inr ⟨q, y1, by rw [w _ _ (by omega) (by omega) (by omega), y2], by rw [w _ _ (by omega) (by omega) (by omega), y3], by rw [w _ _ (by omega) (by omega) (by omega), w _ _ (by omega) (by omega) (by omega), y4]⟩
theorem io_sh {m d : Nat} (h : (m = 192 ∧ d = 194) ∨ (m = 194 ∧ d = 192)) : iO m 10 = true ∧ iO d 10 = true := by
  rcases h with ⟨rfl, rfl⟩ | ⟨rfl, rfl⟩ <;> exact ⟨by decide +kernel, by decide +kernel⟩
theorem op_written {I : Mem} (hI : Inv I) : OKc (caseV (m_X11_written 0 I) (m_X12_written 196 I)) := by
  obtain ⟨m, d, wl, k, hm, h1, h2, h3, h4, h5, h6, h7, h8, h9⟩ := hI.2.2.2.2.2.2.2
  have e1 : (nI m).toNatClampNeg = m := nI_clamp (by omega)
  have e2 := (io_sh hm).1
  refine opV_ok (v := nI wl) (I2 := ms I 196 48 0) ?_ ?_ hI.thr
  · simp [m_X11_written, h1, e1, e2, gd_t, m_X10_count, h4]
  · simp [m_X12_written, bnd, ms_app, h5]
theorem at_ok {I : Mem} {g n x q : Nat} (hn : n ≤ 300) (hx : x < n) (h1 : I g 1 = nI n) (h2 : I (g + 1) x = nI q) (hq : q < 65536) : m_X10_at g (nI x) I = some (nI q) := by
  have z0 : ¬ nI x < 0 := nI_pos (by omega)
  have z1 : ¬ nI n ≤ nI x := nI_ge hx (by omega)
  have z2 : inb (nI x) 300 = true := inb_n (by omega) (by omega)
  have z3 : (nI x).toNatClampNeg = x := nI_clamp (by omega)
  have z6 : okc (nI q) = true := okc_n' hq
  simp [m_X10_at, z0, h1, z1, z2, z3, gd_t, h2, z6]
theorem op_letter {I : Mem} (hI : Inv I) (p : Int32) : OKc (caseA (wrE hv_letter (m_X11_letter 0 p I)) (fun I => m_X12_letter 196 p I)) := by
  obtain ⟨m, d, wl, k, hm, h1, h2, h3, h4, h5, h6, h7, h8, h9⟩ := hI.2.2.2.2.2.2.2
  have e1 : (nI m).toNatClampNeg = m := nI_clamp (by omega)
  have e2 := (io_sh hm).1
  rcases ix_or p (n := wl) (by omega) with c | ⟨c0, c1, c2, c3⟩ | ⟨j, hj, rfl, c0, c1, c2, c3⟩
  · exact opA_ex (c := 1) (k := 2) (I1 := I) (I2 := ms I 196 48 1) (v := 0) (by simp [m_X11_letter, c, m_X11_letter_j15]) rfl (by decide) (by simp [m_X12_letter, m_X12_in, c, m_X12_letter_j20, m_X12_isFine, bnd]) (ms_s rfl rfl) hI.thr
  · exact opA_ex (c := 1) (k := 2) (I1 := I) (I2 := ms I 196 48 1) (v := 0) (by simp [m_X11_letter, c0, h1, e1, e2, gd_t, m_X10_count, h4, c2, m_X11_letter_j15]) rfl (by decide) (by simp [m_X12_letter, m_X12_in, c0, h5, c3, m_X12_letter_j20, m_X12_isFine, bnd]) (ms_s rfl rfl) hI.thr
  · obtain ⟨q, y1, y2, y3, y4⟩ := h6 j hj
    have e3 : inb (nI j) 300 = true := inb_n (by omega) (by omega)
    have e4 : (nI j).toNatClampNeg = j := nI_clamp (by omega)
    have e5 : okc (nI q) = true := okc_n' (by omega)
    have e6 := at_ok h3 hj h4 y3 (by omega)
    exact opA_ok (v := nI q) (I1 := I) (I2 := ms (ms I 230 0 (nI q)) 196 48 0) (by simp [m_X11_letter, c0, h1, e1, e2, gd_t, m_X10_count, h4, c2, e6, e5]) (by simp [m_X12_letter, m_X12_in, c0, ms_app, h5, c3, m_X12_letter_j20, m_X12_isFine, bnd, e3, e4, gd_t, y4, e5]) (ms_s rfl rfl) (by simp [ms_app]) hI.out.thr
