def MB (J : Mem) (T : Nat → Nat → Nat) (ni ne d n : Nat) (g : Nat → Nat) : Prop := SchC J T ni ne false ∧ SF T ni ne ∧ (∃ d', (d = 62 ∧ d' = 127) ∨ (d = 127 ∧ d' = 62)) ∧ n ≤ 18 ∧ J d 2 = nI (n + 2) ∧ ∀ s, s < n → J (d + 8 + 3 * s) 3 = nI (g s) ∧ g s < 65536
def MKs (J : Mem) (T : Nat → Nat → Nat) (g : Nat → Nat) (n ni : Nat) : Prop := ∀ i, i < ni → Bt (J 34 i) (mk T g n i)
def RSs (J : Mem) (T : Nat → Nat → Nat) (g : Nat → Nat) (n ne : Nat) : Prop := ∀ e, e ≤ ne → Bt (J 35 e) (rs T g n ne (ne - e))
def FrD (d n : Nat) (J J' : Mem) : Prop := ∀ a b, ¬ (34 ≤ a ∧ a ≤ 37) → ¬ (a = 33 ∧ b = 5) → ¬ ((b = 5 ∨ b = 6) ∧ ∃ s, s < n ∧ a = d + 8 + 3 * s) → J' a b = J a b
theorem FrD.tr {d n : Nat} {A B C : Mem} (h : FrD d n A B) (h2 : FrD d n B C) : FrD d n A C := fun a b x y z => (h2 a b x y z).trans (h a b x y z)
theorem FrD.rf {d n : Nat} {A : Mem} : FrD d n A A := fun _ _ _ _ _ => rfl
theorem MB.fr {J J' : Mem} {T : Nat → Nat → Nat} {ni ne d n : Nat} {g : Nat → Nat} (h : MB J T ni ne d n g) (hf : FrD d n J J') : MB J' T ni ne d n g := by
  obtain ⟨h1, h2, ⟨d', h3⟩, h4, h5, h6⟩ := h
  refine ⟨h1.congr2 h2.1 (by have := h2.2.1; omega) fun a b hd ha => hf a b ?_ ?_ ?_, h2, ⟨d', h3⟩, h4, ?_, fun s hs => ?_⟩
  · unfold DSch at hd; omega
  · unfold DSch at hd; omega
  · unfold DSch at hd
    rintro ⟨_, s, _, e⟩
    omega
  · rw [hf d 2 (by omega) (by omega) (by omega), h5]
  · rw [hf _ 3 (by omega) (by omega) (by omega)]
    exact h6 s hs
theorem itemAt_ok {J : Mem} {T : Nat → Nat → Nat} {ni ne i : Nat} (h : SchC J T ni ne false) (hn : ni ≤ 10) (hi : i < ni) : m_X8_itemAt 1 (nI i) J = some (6 + i) := by
  have e1 : ¬ nI i < 0 := nI_pos (by omega)
  have e2 : ¬ nI ni ≤ nI i := nI_ge hi (by omega)
  have e3 : inb (nI i) 10 = true := inb_n (by omega) (by omega)
  have e4 : (nI i).toNatClampNeg = i := nI_clamp (by omega)
  have e5 : 1 + 1 + (4 + 1 * i) = 6 + i := by omega
  simp only [m_X8_itemAt, e1, h.1, e2, e3, e4, gd_t, if_false, e5]
theorem entryAt_ok {J : Mem} {T : Nat → Nat → Nat} {ni ne e : Nat} (h : SchC J T ni ne false) (hn : ne ≤ 11) (he : e < ne) : m_X8_entryAt 1 (nI e) J = some (16 + e) := by
  have e1 : ¬ nI e < 0 := nI_pos (by omega)
  have e2 : ¬ nI ne ≤ nI e := nI_ge he (by omega)
  have e3 : inb (nI e) 11 = true := inb_n (by omega) (by omega)
  have e4 : (nI e).toNatClampNeg = e := nI_clamp (by omega)
  have e5 : 1 + 2 + (13 + 1 * e) = 16 + e := by omega
  simp only [m_X8_entryAt, e1, h.2.1, e2, e3, e4, gd_t, if_false, e5]
theorem pm_lt {j f : Nat} (h : j ≤ f) (hf : f < 1000) : nI j - 1 < nI f := by
  rw [Int32.lt_iff_toInt_lt]
  show (nI j - nI 1).toInt < _
  rw [pk_sub_toInt (by omega) (by omega), nI_toInt (by omega)]
  omega
theorem pm_0 {j : Nat} (hj : j < 1000) : nI j - 1 < 0 ↔ j = 0 := by
  rw [Int32.lt_iff_toInt_lt]
  show (nI j - nI 1).toInt < (0 : Int32).toInt ↔ _
  rw [pk_sub_toInt (by omega) (by omega)]
  have : (0 : Int32).toInt = 0 := rfl
  omega
theorem p_m1 (x : Int32) : x + -1 = x - 1 := (Int32.sub_eq_add_neg x 1).symm
theorem mx1 {l : Nat} (h : l ≤ 9) : (if nI l < 1 then (1 : Int32) else nI l) = nI (max l 1) := by
  by_cases z : l < 1
  · have := nI_lt (b := 1) z (by omega)
    rw [if_pos (show nI l < 1 from this), Nat.max_eq_right (by omega)]
    rfl
  · have := nI_nlt (a := l) (b := 1) (by omega) (by omega)
    rw [if_neg (show ¬ nI l < 1 from this), Nat.max_eq_left (by omega)]
theorem pBP {J : Mem} {T : Nat → Nat → Nat} {g : Nat → Nat} {n ni ne e : Nat} {v : Int32} {S : Nat → Prop} (hC : SchC J T ni ne false) (hS : SF T ni ne) (hM : MKs J T g n ni) (he : e < ne) (hv : Bt v S) :
    ∃ w J', m_X3_placesBeforePass 33 (16 + e) v J = some (w, J') ∧ Bt w (fr T g n S (T 5 e - T 4 e) (T 4 e)) ∧ (∀ j, T 4 e ≤ j → j ≤ T 5 e → Bt (J' 37 j) (bg T g n S (T 5 e - j) j)) ∧ ∀ a b, a ≠ 37 → J' a b = J a b := by
  have k := hS.2.2.2.1 e he
  have k0 := hS.1
  have k1 := hS.2.1
  obtain ⟨q1, q2, q3, q4, q5⟩ := hC.2.2.2.2 e he
  have i1 := put11 (a := 37) (v := v) (I := J) (show T 5 e < 11 by omega)
  have i3 : (ms J 37 (T 5 e) v) (16 + e) 2 = nI (T 5 e) := by rw [ms_o (by omega), q3]
  obtain ⟨b, f1, f2⟩ := loop_run (body := fun a => m_X3_placesBeforePass_b22 33 (16 + e) a.1 a.2.1 a.2.2)
    (Inv := fun r a => ∃ j, T 4 e ≤ j ∧ j ≤ T 5 e ∧ r = j ∧ a.2.1 = nI j - 1 ∧ Bt a.1 (fr T g n S (T 5 e - j) j) ∧ (∀ j', j ≤ j' → j' ≤ T 5 e → Bt (a.2.2 37 j') (bg T g n S (T 5 e - j') j')) ∧ ∀ a' b', a' ≠ 37 → a.2.2 a' b' = J a' b')
    (Post := fun b => Bt b.1 (fr T g n S (T 5 e - T 4 e) (T 4 e)) ∧ (∀ j, T 4 e ≤ j → j ≤ T 5 e → Bt (b.2 37 j) (bg T g n S (T 5 e - j) j)) ∧ ∀ a' b', a' ≠ 37 → b.2 a' b' = J a' b') (fun r a ⟨j, h1, h2, h3, h4, h5, h6, h7⟩ => by
      obtain ⟨x3, x4, I⟩ := a
      simp only at h4 h5 h6 h7
      subst h4
      have r1 : I (16 + e) 1 = nI (T 4 e) := by rw [h7 _ _ (by omega), q2]
      by_cases z : j = T 4 e
      · have c : nI j - 1 < nI (T 4 e) := pm_lt (by omega) (by omega)
        refine Or.inl ⟨(x3, I), by simp only [m_X3_placesBeforePass_b22, r1, c, if_true], ?_, ?_, h7⟩
        · rw [← z]; exact h5
        · rw [← z]; exact h6
      · obtain ⟨i, rfl⟩ : ∃ i, j = i + 1 := ⟨j - 1, by omega⟩
        rw [nI_pred]
        have hin : i < ni := by omega
        have t := hS.2.2.1 i hin
        obtain ⟨s1, s2, s3⟩ := hC.2.2.2.1 i hin
        have c : ¬ nI i < nI (T 4 e) := nI_nlt (by omega) (by omega)
        have hCI : SchC I T ni ne false := hC.congr2 (by omega) (by omega) fun a b hd ha => h7 a b (by unfold DSch at hd; omega)
        have w1 := itemAt_ok hCI (by omega) hin
        have w2 := io_it i (by omega)
        have w3 : I (6 + i) 1 = nI (T 1 i) := by rw [h7 _ _ (by omega), s2]
        have w4 : I (6 + i) 2 = nI (T 2 i) := by rw [h7 _ _ (by omega), s3]
        have w5 : nI i + 1 = nI (i + 1) := nI_1 i
        have w6 := at11 (a := 37) (I := I) (show i + 1 < 11 by omega)
        have w7 := at10 (a := 34) (I := I) (show i < 10 by omega)
        have w8 := fun v => put11 (a := 37) (v := v) (I := I) (show i < 11 by omega)
        have hb := h6 (i + 1) (by omega) (by omega)
        have hmI : Bt (I 34 i) (mk T g n i) := by rw [h7 _ _ (by omega)]; exact hM i hin
        obtain ⟨w, p1, p2⟩ := pBI (J := I) (lo := max (T 1 i) 1) (hi := T 2 i) hmI (by omega) (by omega) hb
        have hd : T 5 e - i = (T 5 e - (i + 1)) + 1 := by omega
        have mx := mx1 (l := T 1 i) (by omega)
        by_cases o : T 1 i = 0
        · have o' : nI (T 1 i) = 0 := by rw [o]; rfl
          refine Or.inr ⟨(w ||| x3, nI i - 1, ms I 37 i (w ||| I 37 (i + 1))), i, by omega, ?_, i, by omega, by omega, rfl, rfl, ?_, fun j' a b => ?_, fun a b hne => ?_⟩
          · simp only [m_X3_placesBeforePass_b22, r1, c, if_false, Nat.reduceSub, Nat.reduceAdd, w1, Option.bind_some, w2, gd_t, w5, w6, w7, w3, w4, mx, p1, if_pos o', m_X3_placesBeforePass_j98, m_X3_placesBeforePass_j121, w8, m_X3_placesBeforePass_j138, p_m1]
            simp
          · rw [hd]
            exact (p2.or h5).cg fun p => by simp only [fr, o, true_and]
          · by_cases y : j' = i
            · subst y
              rw [hd]
              show Bt (ms I 37 j' (w ||| I 37 (j' + 1)) 37 j') _
              rw [ms_s rfl rfl]
              exact (p2.or hb).cg fun p => by simp only [bg, o, true_and]
            · show Bt (ms I 37 i (w ||| I 37 (i + 1)) 37 j') _
              rw [ms_o (by omega)]
              exact h6 j' (by omega) b
          · show ms I 37 i _ a b = _
            rw [ms_o (by omega), h7 a b hne]
        · have o' : ¬ nI (T 1 i) = 0 := nI_ne0 (by omega) (by omega)
          refine Or.inr ⟨(w, nI i - 1, ms I 37 i w), i, by omega, ?_, i, by omega, by omega, rfl, rfl, ?_, fun j' a b => ?_, fun a b hne => ?_⟩
          · simp only [m_X3_placesBeforePass_b22, r1, c, if_false, Nat.reduceSub, Nat.reduceAdd, w1, Option.bind_some, w2, gd_t, w5, w6, w7, w3, w4, mx, p1, if_neg o', m_X3_placesBeforePass_j98, m_X3_placesBeforePass_j121, w8, m_X3_placesBeforePass_j138, p_m1]
            simp
          · rw [hd]
            exact p2.cg fun p => by simp only [fr, o, false_and, or_false]
          · by_cases y : j' = i
            · subst y
              rw [hd]
              show Bt (ms I 37 j' w 37 j') _
              rw [ms_s rfl rfl]
              exact p2.cg fun p => by simp only [bg, o, false_and, or_false]
            · show Bt (ms I 37 i w 37 j') _
              rw [ms_o (by omega)]
              exact h6 j' (by omega) b
          · show ms I 37 i _ a b = _
            rw [ms_o (by omega), h7 a b hne]) FU (T 5 e) ((0 : Int32), nI (T 5 e) - 1, ms J 37 (T 5 e) v) (by unfold FU; omega)
    ⟨T 5 e, by omega, by omega, rfl, rfl, by rw [Nat.sub_self]; exact Bt.zero.cg fun p => Iff.rfl, fun j' a b => by
      have : j' = T 5 e := by omega
      subst this
      rw [Nat.sub_self]
      show Bt (ms J 37 (T 5 e) v 37 (T 5 e)) _
      rw [ms_s rfl rfl]
      exact hv.cg fun p => Iff.rfl, fun a b hne => ms_o (by omega)⟩
  refine ⟨b.1, b.2, ?_, f2.1, f2.2.1, f2.2.2⟩
  simp only [m_X3_placesBeforePass, q3, i1, Nat.reduceAdd, i3, f1, Option.bind_some]
theorem pFA {J : Mem} {T : Nat → Nat → Nat} {g : Nat → Nat} {n ni ne e : Nat} {v : Int32} {R : Nat → Prop} (hC : SchC J T ni ne false) (hS : SF T ni ne) (hM : MKs J T g n ni) (he : e < ne) (hv : Bt v R) :
    ∃ J', m_X3_findAfters 33 (16 + e) v J = some J' ∧ (∀ q, q ≤ T 7 e → Bt (J' 36 q) (af T g n e R (T 7 e - q))) ∧ ∀ a b, a ≠ 36 → a ≠ 37 → J' a b = J a b := by
  have k := hS.2.2.2.1 e he
  have k0 := hS.1
  have k1 := hS.2.1
  obtain ⟨q1, q2, q3, q4, q5⟩ := hC.2.2.2.2 e he
  have i1 := put10 (a := 36) (v := v) (I := J) (show T 7 e < 10 by omega)
  have i3 : (ms J 36 (T 7 e) v) (16 + e) 4 = nI (T 7 e) := by rw [ms_o (by omega), q5]
  obtain ⟨b, f1, f2⟩ := loop_run (body := fun a => m_X3_findAfters_b19 33 (16 + e) v a.1 a.2)
    (Inv := fun r a => ∃ q, q ≤ T 7 e ∧ r = q ∧ a.1 = nI q - 1 ∧ (∀ q', q ≤ q' → q' ≤ T 7 e → Bt (a.2 36 q') (af T g n e R (T 7 e - q'))) ∧ ∀ a' b', a' ≠ 36 → a' ≠ 37 → a.2 a' b' = J a' b')
    (Post := fun b => (∀ q, q ≤ T 7 e → Bt (b 36 q) (af T g n e R (T 7 e - q))) ∧ ∀ a' b', a' ≠ 36 → a' ≠ 37 → b a' b' = J a' b') (fun r a ⟨q, h2, h3, h4, h6, h7⟩ => by
      obtain ⟨x3, I⟩ := a
      simp only at h4 h6 h7
      subst h4
      by_cases z : q = 0
      · have c : nI q - 1 < 0 := (pm_0 (by omega)).mpr z
        refine Or.inl ⟨I, by simp only [m_X3_findAfters_b19, c, if_true], fun q' hq' => h6 q' (by omega) hq', h7⟩
      · obtain ⟨u, rfl⟩ : ∃ u, q = u + 1 := ⟨q - 1, by omega⟩
        rw [nI_pred]
        have c : ¬ nI u < 0 := nI_pos (by omega)
        have hCI : SchC I T ni ne false := hC.congr2 (by omega) (by omega) fun a b hd ha => h7 a b (by unfold DSch at hd; omega) (by unfold DSch at hd; omega)
        have hMI : MKs I T g n ni := fun i hi => by rw [h7 _ _ (by omega) (by omega)]; exact hM i hi
        obtain ⟨w, I', p1, p2, p3, p4⟩ := pBP hCI hS hMI he (h6 (u + 1) (by omega) (by omega))
        have w5 : nI u + 1 = nI (u + 1) := nI_1 u
        have w6 := at10 (a := 36) (I := I) (show u + 1 < 10 by omega)
        have w8 := fun v => put10 (a := 36) (v := v) (I := I') (show u < 10 by omega)
        have l1 : I' (16 + e) 3 = nI (T 6 e) := by rw [p4 _ _ (by omega), h7 _ _ (by omega) (by omega), q4]
        have hd : T 7 e - u = (T 7 e - (u + 1)) + 1 := by omega
        have hd2 : T 7 e - (T 7 e - (u + 1) + 1) = u := by omega
        have fin : ∀ x, Bt x (af T g n e R (T 7 e - u)) → m_X3_findAfters_b19 33 (16 + e) v (nI u) I = some (.inl (nI u - 1, ms I' 36 u x)) →
            ∃ a' n', n' < r ∧ (fun a : Int32 × Mem => m_X3_findAfters_b19 33 (16 + e) v a.1 a.2) (nI u, I) = some (.inl a') ∧ ∃ q, q ≤ T 7 e ∧ n' = q ∧ a'.1 = nI q - 1 ∧ (∀ q', q ≤ q' → q' ≤ T 7 e → Bt (a'.2 36 q') (af T g n e R (T 7 e - q'))) ∧ ∀ a'' b', a'' ≠ 36 → a'' ≠ 37 → a'.2 a'' b' = J a'' b' := fun x hx hb => by
          refine ⟨(nI u - 1, ms I' 36 u x), u, by omega, hb, u, by omega, rfl, rfl, fun q' a b => ?_, fun a b h1 h2 => ?_⟩
          · show Bt (ms I' 36 u x 36 q') _
            by_cases y : q' = u
            · subst y
              rw [ms_s rfl rfl]
              exact hx
            · rw [ms_o (by omega), p4 _ _ (by omega)]
              exact h6 q' (by omega) b
          · show ms I' 36 u x a b = _
            rw [ms_o (by omega), p4 _ _ h2, h7 a b h1 h2]
        by_cases y : u < T 6 e
        · have c2 : nI u < nI (T 6 e) := nI_lt y (by omega)
          refine Or.inr (fin w ?_ ?_)
          · rw [hd]
            exact p2.cg fun p => by simp only [af, hd2]; constructor
                                    · exact fun h => Or.inl h
                                    · rintro (h | ⟨h, _⟩)
                                      · exact h
                                      · omega
          · simp only [m_X3_findAfters_b19, c, if_false, w5, w6, Nat.reduceAdd, p1, Option.bind_some, l1, c2, if_true, m_X3_findAfters_j62, w8, p_m1]
        · have c2 : ¬ nI u < nI (T 6 e) := nI_nlt (by omega) (by omega)
          refine Or.inr (fin (w ||| v) ?_ ?_)
          · rw [hd]
            exact (p2.or hv).cg fun p => by simp only [af, hd2]; constructor
                                            · rintro (h | h)
                                              · exact Or.inl h
                                              · exact Or.inr ⟨by omega, h⟩
                                            · rintro (h | ⟨_, h⟩)
                                              · exact Or.inl h
                                              · exact Or.inr h
          · simp only [m_X3_findAfters_b19, c, if_false, w5, w6, Nat.reduceAdd, p1, Option.bind_some, l1, c2, m_X3_findAfters_j62, w8, p_m1]) FU (T 7 e) (nI (T 7 e) - 1, ms J 36 (T 7 e) v) (by unfold FU; omega)
    ⟨T 7 e, by omega, rfl, rfl, fun q' a b => by
      have : q' = T 7 e := by omega
      subst this
      rw [Nat.sub_self]
      show Bt (ms J 36 (T 7 e) v 36 (T 7 e)) _
      rw [ms_s rfl rfl]
      exact hv.cg fun p => Iff.rfl, fun a b h1 h2 => ms_o (by omega)⟩
  refine ⟨b, ?_, f2⟩
  simp only [m_X3_findAfters, q5, i1, Nat.reduceAdd, i3, f1, Option.bind_some]
