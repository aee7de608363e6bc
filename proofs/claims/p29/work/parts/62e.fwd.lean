def FrV (J J' : Mem) : Prop := ∀ a b, ¬ (a = 33 ∧ b = 5) → J' a b = J a b
theorem FrV.tr {A B C : Mem} (h : FrV A B) (h2 : FrV B C) : FrV A C := fun a b z => (h2 a b z).trans (h a b z)
theorem FrV.d {d n : Nat} {J J' : Mem} (h : FrV J J') : FrD d n J J' := fun a b _ h2 _ => h a b h2
def rPs (T : Nat → Nat → Nat) (g : Nat → Nat) (n f : Nat) (st : Nat → Prop) (i p : Nat) : Prop := pfi T g n i 1 (T 2 i) (fun s => (allo T (i - f) f = true ∧ st s) ∨ fwd T g n f st (i - f) s) p
theorem pFP {J : Mem} {T : Nat → Nat → Nat} {g : Nat → Nat} {n ni ne e : Nat} {v : Int32} {st R : Nat → Prop} (hC : SchC J T ni ne false) (hS : SF T ni ne) (hn : n ≤ 18) (hM : MKs J T g n ni) (he : e < ne) (hv : Bt v st) (hR : Bt (J 33 5) R) :
    ∃ w J', m_X3_placesBehindPass 33 (16 + e) v J = some (w, J') ∧ Bt w (fwd T g n (T 4 e) st (T 5 e - T 4 e)) ∧ Bt (J' 33 5) (fun p => R p ∨ ∃ i, T 4 e ≤ i ∧ i < T 5 e ∧ rPs T g n (T 4 e) st i p) ∧ FrV J J' := by
  have k := hS.2.2.2.1 e he
  have k0 := hS.1
  have k1 := hS.2.1
  obtain ⟨q1, q2, q3, q4, q5⟩ := hC.2.2.2.2 e he
  obtain ⟨b, f1, f2⟩ := loop_run (body := fun a => m_X3_placesBehindPass_b11 33 (16 + e) a.1 a.2.1 a.2.2.1 a.2.2.2)
    (Inv := fun r a => ∃ m, m ≤ T 5 e - T 4 e ∧ r = T 5 e - T 4 e - m ∧ a.2.2.1 = nI (T 4 e + m) ∧ Bt a.1 (fun p => allo T m (T 4 e) = true ∧ st p) ∧ Bt a.2.1 (fwd T g n (T 4 e) st m) ∧ Bt (a.2.2.2 33 5) (fun p => R p ∨ ∃ i, T 4 e ≤ i ∧ i < T 4 e + m ∧ rPs T g n (T 4 e) st i p) ∧ FrV J a.2.2.2)
    (Post := fun b => Bt b.1 (fwd T g n (T 4 e) st (T 5 e - T 4 e)) ∧ Bt (b.2 33 5) (fun p => R p ∨ ∃ i, T 4 e ≤ i ∧ i < T 5 e ∧ rPs T g n (T 4 e) st i p) ∧ FrV J b.2) (fun r a ⟨m, g1, g2, g3, g4, g5, g6, g7⟩ => by
      obtain ⟨x3, x4, x5, I⟩ := a
      simp only at g3 g4 g5 g6 g7
      subst g3
      have l2 : I (16 + e) 2 = nI (T 5 e) := by rw [g7 _ _ (by omega), q3]
      by_cases z : m = T 5 e - T 4 e
      · have c : nI (T 5 e) ≤ nI (T 4 e + m) := nI_le (by omega) (by omega)
        refine Or.inl ⟨(x4, I), by simp only [m_X3_placesBehindPass_b11, l2, c, if_true], by rw [← z]; exact g5, g6.cg fun p => ?_, g7⟩
        rw [show T 4 e + m = T 5 e by omega]
      · have c : ¬ nI (T 5 e) ≤ nI (T 4 e + m) := nI_ge (by omega) (by omega)
        have hin : T 4 e + m < ni := by omega
        have t := hS.2.2.1 _ hin
        obtain ⟨s1, s2, s3⟩ := hC.2.2.2.1 _ hin
        have hCI : SchC I T ni ne false := hC.congr2 (by omega) (by omega) fun a b hd ha => g7 a b (by unfold DSch at hd; omega)
        have w1 := itemAt_ok hCI (by omega) hin
        have w2 := io_it (T 4 e + m) (by omega)
        have w4 : I (6 + (T 4 e + m)) 2 = nI (T 2 (T 4 e + m)) := by rw [g7 _ _ (by omega), s3]
        have hmI : Bt (I 34 (T 4 e + m)) (mk T g n (T 4 e + m)) := by rw [g7 _ _ (by omega)]; exact hM _ hin
        have hW := g4.or g5
        have w6 := at10 (a := 34) (I := I) (show T 4 e + m < 10 by omega)
        obtain ⟨w, p1, p2⟩ := pFI (J := I) (lo := 1) (hi := T 2 (T 4 e + m)) hn hmI (by omega) (by omega) hW
        have p1' : m_X3_placesBehindItem (I 34 (T 4 e + m)) (1 : Int32) (nI (T 2 (T 4 e + m))) (x3 ||| x4) I = some w := p1
        obtain ⟨w', p3, p4⟩ := pFI (lo := max (T 1 (T 4 e + m)) 1) (hi := T 2 (T 4 e + m)) (J := ms I 33 5 (I 33 5 ||| w)) hn hmI (by omega) (by omega) hW
        have w3 : (ms I 33 5 (I 33 5 ||| w)) (6 + (T 4 e + m)) 1 = nI (T 1 (T 4 e + m)) := by rw [ms_o (by omega), g7 _ _ (by omega), s2]
        have w4' : (ms I 33 5 (I 33 5 ||| w)) (6 + (T 4 e + m)) 2 = nI (T 2 (T 4 e + m)) := by rw [ms_o (by omega), w4]
        have mx := mx1 (l := T 1 (T 4 e + m)) (by omega)
        have e3 : nI (T 4 e + m) + 1 = nI (T 4 e + (m + 1)) := nI_1 _
        have hr : Bt ((ms I 33 5 (I 33 5 ||| w)) 33 5) (fun p => R p ∨ ∃ i, T 4 e ≤ i ∧ i < T 4 e + (m + 1) ∧ rPs T g n (T 4 e) st i p) := by
          rw [ms_s rfl rfl]
          refine (g6.or p2).cg fun p => ?_
          have hr2 : pfi T g n (T 4 e + m) 1 (T 2 (T 4 e + m)) (fun p => (allo T m (T 4 e) = true ∧ st p) ∨ fwd T g n (T 4 e) st m p) p ↔ rPs T g n (T 4 e) st (T 4 e + m) p := by
            unfold rPs
            rw [show T 4 e + m - T 4 e = m by omega]
          constructor
          · rintro ((a | ⟨i, a, b, c⟩) | a)
            · exact Or.inl a
            · exact Or.inr ⟨i, a, by omega, c⟩
            · exact Or.inr ⟨T 4 e + m, by omega, by omega, hr2.mp a⟩
          · rintro (a | ⟨i, a, b, c⟩)
            · exact Or.inl (Or.inl a)
            · by_cases o : i = T 4 e + m
              · subst o; exact Or.inr (hr2.mpr c)
              · exact Or.inl (Or.inr ⟨i, a, by omega, c⟩)
        have hf : FrV J (ms I 33 5 (I 33 5 ||| w)) := fun a b h => by rw [ms_o (by omega), g7 a b h]
        by_cases o : T 1 (T 4 e + m) = 0
        · have o' : nI (T 1 (T 4 e + m)) = 0 := by rw [o]; rfl
          refine Or.inr ⟨(x3, w' ||| x4, nI (T 4 e + (m + 1)), ms I 33 5 (I 33 5 ||| w)), T 5 e - T 4 e - (m + 1), by omega, ?_, m + 1, by omega, rfl, rfl, g4.cg fun p => ?_, (p4.or g5).cg fun p => ?_, hr, hf⟩
          · simp only [m_X3_placesBehindPass_b11, l2, c, if_false, Nat.reduceSub, Nat.reduceAdd, w1, Option.bind_some, w2, gd_t, w6, w4, p1', bnd, w3, w4', mx, p3, if_pos o', m_X3_placesBehindPass_j104, m_X3_placesBehindPass_j121, m_X3_placesBehindPass_j133, e3]
            simp
          · rw [allo_e]
            simp only [o, and_true]
          · simp only [fwd, o, true_and]
            rfl
        · have o' : ¬ nI (T 1 (T 4 e + m)) = 0 := nI_ne0 (by omega) (by omega)
          refine Or.inr ⟨((0 : Int32), w', nI (T 4 e + (m + 1)), ms I 33 5 (I 33 5 ||| w)), T 5 e - T 4 e - (m + 1), by omega, ?_, m + 1, by omega, rfl, rfl, Bt.zero.cg fun p => ?_, p4.cg fun p => ?_, hr, hf⟩
          · simp only [m_X3_placesBehindPass_b11, l2, c, if_false, Nat.reduceSub, Nat.reduceAdd, w1, Option.bind_some, w2, gd_t, w6, w4, p1', bnd, w3, w4', mx, p3, if_neg o', m_X3_placesBehindPass_j104, m_X3_placesBehindPass_j121, m_X3_placesBehindPass_j133, e3]
            simp
          · rw [allo_e]
            simp only [o, and_false, false_and]
          · simp only [fwd, o, false_and, or_false]
            rfl) FU (T 5 e - T 4 e) (v, (0 : Int32), nI (T 4 e), J) (by unfold FU; omega)
    ⟨0, by omega, rfl, rfl, hv.cg fun p => ⟨fun h => ⟨rfl, h⟩, fun h => h.2⟩, Bt.zero.cg fun p => Iff.rfl, hR.cg fun p => ⟨fun h => Or.inl h, fun h => h.elim id fun ⟨i, a, b, _⟩ => by omega⟩, fun _ _ _ => rfl⟩
  refine ⟨b.1, b.2, ?_, f2⟩
  simp only [m_X3_placesBehindPass, q2, f1, Option.bind_some]
theorem pFE {J : Mem} {T : Nat → Nat → Nat} {g : Nat → Nat} {n ni ne e : Nat} {v : Int32} {st R : Nat → Prop} (hC : SchC J T ni ne false) (hS : SF T ni ne) (hn : n ≤ 18) (hM : MKs J T g n ni) (he : e < ne) (hv : Bt v st) (hR : Bt (J 33 5) R) :
    ∃ w J', m_X3_placesBehindEntry 33 (16 + e) v J = some (w, J') ∧ Bt w (fun p => ∃ q, T 6 e ≤ q ∧ q ≤ T 7 e ∧ pas T g n e st q p) ∧ Bt (J' 33 5) (fun p => R p ∨ ∃ q i, q < T 7 e ∧ T 4 e ≤ i ∧ i < T 5 e ∧ rPs T g n (T 4 e) (pas T g n e st q) i p) ∧ FrV J J' := by
  have k := hS.2.2.2.1 e he
  have k0 := hS.1
  have k1 := hS.2.1
  obtain ⟨q1, q2, q3, q4, q5⟩ := hC.2.2.2.2 e he
  obtain ⟨b, f1, f2⟩ := loop_run (body := fun a => m_X3_placesBehindEntry_b8 33 (16 + e) a.1 a.2.1 a.2.2.1 a.2.2.2)
    (Inv := fun r a => ∃ q, q ≤ T 7 e + 1 ∧ r = T 7 e + 1 - q ∧ a.2.2.1 = nI q ∧ Bt a.1 (fun p => ∃ q', q' < q ∧ T 6 e ≤ q' ∧ pas T g n e st q' p) ∧ (q ≤ T 7 e → Bt a.2.1 (pas T g n e st q)) ∧ Bt (a.2.2.2 33 5) (fun p => R p ∨ ∃ q' i, q' < q ∧ q' < T 7 e ∧ T 4 e ≤ i ∧ i < T 5 e ∧ rPs T g n (T 4 e) (pas T g n e st q') i p) ∧ FrV J a.2.2.2)
    (Post := fun b => Bt b.1 (fun p => ∃ q, T 6 e ≤ q ∧ q ≤ T 7 e ∧ pas T g n e st q p) ∧ Bt (b.2 33 5) (fun p => R p ∨ ∃ q i, q < T 7 e ∧ T 4 e ≤ i ∧ i < T 5 e ∧ rPs T g n (T 4 e) (pas T g n e st q) i p) ∧ FrV J b.2) (fun r a ⟨q, g1, g2, g3, g4, g5, g6, g7⟩ => by
      obtain ⟨x3, x4, x5, I⟩ := a
      simp only at g3 g4 g5 g6 g7
      subst g3
      have l4 : I (16 + e) 4 = nI (T 7 e) := by rw [g7 _ _ (by omega), q5]
      have l3 : I (16 + e) 3 = nI (T 6 e) := by rw [g7 _ _ (by omega), q4]
      by_cases z : T 7 e < q
      · have c : nI (T 7 e) < nI q := nI_lt z (by omega)
        refine Or.inl ⟨(x3, I), by simp only [m_X3_placesBehindEntry_b8, l4, c, if_true], g4.cg fun p => ?_, g6.cg fun p => ?_, g7⟩
        · constructor
          · rintro ⟨q', a, b, c⟩; exact ⟨q', b, by omega, c⟩
          · rintro ⟨q', a, b, c⟩; exact ⟨q', by omega, a, c⟩
        · constructor
          · rintro (a | ⟨q', i, a, b, c⟩)
            · exact Or.inl a
            · exact Or.inr ⟨q', i, b, c⟩
          · rintro (a | ⟨q', i, a, b⟩)
            · exact Or.inl a
            · exact Or.inr ⟨q', i, by omega, a, b⟩
      · have c : ¬ nI (T 7 e) < nI q := nI_nlt (by omega) (by omega)
        have h4 := g5 (by omega)
        have e3 : nI q + 1 = nI (q + 1) := nI_1 q
        have hCI : SchC I T ni ne false := hC.congr2 (by omega) (by omega) fun a b hd ha => g7 a b (by unfold DSch at hd; omega)
        have hMI : MKs I T g n ni := fun i hi => by rw [g7 _ _ (by omega)]; exact hM _ hi
        have key : ∀ x3', Bt x3' (fun p => ∃ q', q' < q + 1 ∧ T 6 e ≤ q' ∧ pas T g n e st q' p) → m_X3_placesBehindEntry_b8 33 (16 + e) x3 x4 (nI q) I = m_X3_placesBehindEntry_j31 33 (16 + e) x3' x4 (nI q) I →
            ∃ a' n', n' < r ∧ (fun a : Int32 × Int32 × Int32 × Mem => m_X3_placesBehindEntry_b8 33 (16 + e) a.1 a.2.1 a.2.2.1 a.2.2.2) (x3, x4, nI q, I) = some (.inl a') ∧ ∃ q, q ≤ T 7 e + 1 ∧ n' = T 7 e + 1 - q ∧ a'.2.2.1 = nI q ∧ Bt a'.1 (fun p => ∃ q', q' < q ∧ T 6 e ≤ q' ∧ pas T g n e st q' p) ∧ (q ≤ T 7 e → Bt a'.2.1 (pas T g n e st q)) ∧ Bt (a'.2.2.2 33 5) (fun p => R p ∨ ∃ q' i, q' < q ∧ q' < T 7 e ∧ T 4 e ≤ i ∧ i < T 5 e ∧ rPs T g n (T 4 e) (pas T g n e st q') i p) ∧ FrV J a'.2.2.2 := fun x3' hx hb => by
          show ∃ a' n', n' < r ∧ m_X3_placesBehindEntry_b8 33 (16 + e) x3 x4 (nI q) I = some (.inl a') ∧ _
          rw [hb]
          by_cases y : q = T 7 e
          · have c3 : nI (T 7 e) ≤ nI q := nI_le (by omega) (by omega)
            refine ⟨(x3', x4, nI (q + 1), I), T 7 e + 1 - (q + 1), by omega, by simp only [m_X3_placesBehindEntry_j31, l4, c3, if_true, m_X3_placesBehindEntry_j49, e3], q + 1, by omega, rfl, rfl, hx, fun h => by omega, g6.cg fun p => ?_, g7⟩
            constructor
            · rintro (a | ⟨q', i, a, b, c⟩)
              · exact Or.inl a
              · exact Or.inr ⟨q', i, by omega, b, c⟩
            · rintro (a | ⟨q', i, a, b, c⟩)
              · exact Or.inl a
              · exact Or.inr ⟨q', i, by omega, b, c⟩
          · have c3 : ¬ nI (T 7 e) ≤ nI q := nI_ge (by omega) (by omega)
            obtain ⟨w, I', p1, p2, p3, p4⟩ := pFP hCI hS hn hMI he h4 g6
            refine ⟨(x3', w, nI (q + 1), I'), T 7 e + 1 - (q + 1), by omega, by simp only [m_X3_placesBehindEntry_j31, l4, c3, if_false, p1, Option.bind_some, m_X3_placesBehindEntry_j49, e3], q + 1, by omega, rfl, rfl, hx, fun h => p2.cg fun p => Iff.rfl, p3.cg fun p => ?_, g7.tr p4⟩
            constructor
            · rintro ((a | ⟨q', i, a, b, c⟩) | ⟨i, a, b, c⟩)
              · exact Or.inl a
              · exact Or.inr ⟨q', i, by omega, b, c⟩
              · exact Or.inr ⟨q, i, by omega, by omega, a, b, c⟩
            · rintro (a | ⟨q', i, a, b, c', d', f'⟩)
              · exact Or.inl (Or.inl a)
              · by_cases o : q' = q
                · subst o; exact Or.inr ⟨i, c', d', f'⟩
                · exact Or.inl (Or.inr ⟨q', i, by omega, b, c', d', f'⟩)
        by_cases l : q < T 6 e
        · have c2 : nI q < nI (T 6 e) := nI_lt l (by omega)
          refine Or.inr (key x3 (g4.cg fun p => ?_) (by simp only [m_X3_placesBehindEntry_b8, l4, c, if_false, l3, c2, if_true]))
          constructor
          · rintro ⟨q', a, b, c⟩; exact ⟨q', by omega, b, c⟩
          · rintro ⟨q', a, b, c⟩; exact ⟨q', by omega, b, c⟩
        · have c2 : ¬ nI q < nI (T 6 e) := nI_nlt (by omega) (by omega)
          refine Or.inr (key (x3 ||| x4) ((g4.or h4).cg fun p => ?_) (by simp only [m_X3_placesBehindEntry_b8, l4, c, if_false, l3, c2]))
          constructor
          · rintro (⟨q', a, b, c⟩ | a)
            · exact ⟨q', by omega, b, c⟩
            · exact ⟨q, by omega, by omega, a⟩
          · rintro ⟨q', a, b, c'⟩
            by_cases o : q' = q
            · subst o; exact Or.inr c'
            · exact Or.inl ⟨q', by omega, b, c'⟩) FU (T 7 e + 1) ((0 : Int32), v, (0 : Int32), J) (by unfold FU; omega)
    ⟨0, by omega, rfl, rfl, Bt.zero.cg fun p => ⟨fun h => h.elim, fun ⟨q', a, _⟩ => absurd a (Nat.not_lt_zero _)⟩, fun _ => hv.cg fun p => Iff.rfl, hR.cg fun p => ⟨fun h => Or.inl h, fun h => h.elim id fun ⟨q', i, a, _⟩ => absurd a (Nat.not_lt_zero _)⟩, fun _ _ _ => rfl⟩
  refine ⟨b.1, b.2, ?_, f2⟩
  simp only [m_X3_placesBehindEntry, f1, Option.bind_some]
theorem VCnt {J : Mem} {T : Nat → Nat → Nat} {g : Nat → Nat} {n ni ne d : Nat} (hB : MB J T ni ne d n g) (hM : MKs J T g n ni) :
    ∃ c J', m_X3_viableCount 33 d J = some (nI c, J') ∧ c ≤ n ∧ (∀ c', c' < c → rcd T g n ne (c' + 1)) ∧ (c < n → ¬ rcd T g n ne (c + 1)) ∧ FrD d n J J' := by
  have hB0 := hB
  obtain ⟨hC, hS, ⟨d', hm⟩, hn, h2, h3⟩ := hB
  have k0 := hS.1
  have k1 := hS.2.1
  have one : Bt (1 : Int32) (fun p => p = 0) := ⟨2 ^ 0, by omega, rfl, fun p => by rw [Nat.testBit_two_pow, decide_eq_true_eq]; exact eq_comm⟩
  obtain ⟨b, f1, f2⟩ := loop_run (body := fun a => m_X3_viableCount_b9 33 d a.1 a.2.1 a.2.2)
    (Inv := fun r a => ∃ e, e ≤ ne ∧ r = ne - e ∧ a.2.1 = nI e ∧ Bt a.1 (bh T g n e) ∧ Bt (a.2.2 33 5) (fun p => p = 0 ∨ ∃ e' q i, e' < e ∧ q < T 7 e' ∧ T 4 e' ≤ i ∧ i < T 5 e' ∧ rPs T g n (T 4 e') (pas T g n e' (bh T g n e') q) i p) ∧ FrV J a.2.2)
    (Post := fun b => Bt (b 33 5) (fun p => p = 0 ∨ ∃ e' q i, e' < ne ∧ q < T 7 e' ∧ T 4 e' ≤ i ∧ i < T 5 e' ∧ rPs T g n (T 4 e') (pas T g n e' (bh T g n e') q) i p) ∧ FrV J b) (fun r a ⟨e, g1, g2, g3, g4, g5, g6⟩ => by
      obtain ⟨x2, x3, I⟩ := a
      simp only at g3 g4 g5 g6
      subst g3
      have hBI : MB I T ni ne d n g := hB0.fr g6.d
      have c5 : I 1 5 = nI ne := hBI.1.2.1
      by_cases z : e = ne
      · subst z
        have c : nI e ≤ nI e := nI_le (by omega) (by omega)
        exact Or.inl ⟨I, by simp only [m_X3_viableCount_b9, Nat.reduceSub, m_X8_entryCount, c5, Option.bind_some, c, if_true], g5, g6⟩
      · have hlt : e < ne := by omega
        have c : ¬ nI ne ≤ nI e := nI_ge hlt (by omega)
        have w1 := entryAt_ok hBI.1 (by omega) hlt
        have w2 := io_en e (by omega)
        have e3 : nI e + 1 = nI (e + 1) := nI_1 e
        have hMI : MKs I T g n ni := fun i hi => by rw [g6 _ _ (by omega)]; exact hM _ hi
        obtain ⟨w, I', p1, p2, p3, p4⟩ := pFE hBI.1 hS hn hMI hlt g4 g5
        refine Or.inr ⟨(w, nI (e + 1), I'), ne - (e + 1), by omega, by simp only [m_X3_viableCount_b9, Nat.reduceSub, m_X8_entryCount, c5, Option.bind_some, c, if_false, w1, w2, gd_t, p1, e3], e + 1, by omega, rfl, rfl, p2.cg fun p => Iff.rfl, p3.cg fun p => ?_, g6.tr p4⟩
        constructor
        · rintro ((a | ⟨e', q, i, a, b⟩) | ⟨q, i, a⟩)
          · exact Or.inl a
          · exact Or.inr ⟨e', q, i, by omega, b⟩
          · exact Or.inr ⟨e, q, i, by omega, a⟩
        · rintro (a | ⟨e', q, i, a, b⟩)
          · exact Or.inl (Or.inl a)
          · by_cases o : e' = e
            · subst o; exact Or.inr ⟨q, i, b⟩
            · exact Or.inl (Or.inr ⟨e', q, i, by omega, b⟩)) FU ne ((1 : Int32), (0 : Int32), ms J 33 5 1) (by unfold FU; omega)
    ⟨0, by omega, rfl, rfl, one.cg fun p => Iff.rfl, by
      show Bt (ms J 33 5 1 33 5) _
      rw [ms_s rfl rfl]
      exact one.cg fun p => ⟨fun h => Or.inl h, fun h => h.elim id fun ⟨e', q, i, a, _⟩ => absurd a (Nat.not_lt_zero _)⟩, fun a b h => ms_o (by omega)⟩
  obtain ⟨f2, f3⟩ := f2
  have hrc : ∀ p, 0 < p → ((p = 0 ∨ ∃ e' q i, e' < ne ∧ q < T 7 e' ∧ T 4 e' ≤ i ∧ i < T 5 e' ∧ rPs T g n (T 4 e') (pas T g n e' (bh T g n e') q) i p) ↔ rcd T g n ne p) := fun p hp => by
    constructor
    · rintro (a | ⟨e', q, i, a, b, c, d, s, t, h1, h2, h3, h4, h5⟩)
      · omega
      · exact ⟨e', q, i, t, a, b, c, d, s, h1, h2, h3, h4, h5⟩
    · rintro ⟨e', q, i, t, a, b, c, d, s, h1, h2, h3, h4, h5⟩
      exact Or.inr ⟨e', q, i, a, b, c, d, s, t, h1, h2, h3, h4, h5⟩
  have h2b : b d 2 = nI (n + 2) := by rw [f3 _ _ (by omega), h2]
  have bc := bC hn h2b
  obtain ⟨c, v1, v2⟩ := loop_run (body := fun a => m_X3_viableCount_b42 33 d a b)
    (Inv := fun r a => ∃ c, c ≤ n ∧ r = n - c ∧ a = nI c ∧ ∀ c', c' < c → rcd T g n ne (c' + 1)) (Post := fun b => ∃ c, c ≤ n ∧ b = nI c ∧ (∀ c', c' < c → rcd T g n ne (c' + 1)) ∧ (c < n → ¬ rcd T g n ne (c + 1))) (fun r a ⟨c, g1, g2, g3, g4⟩ => by
      subst g3
      by_cases z : c = n
      · subst z
        have cc : nI c ≤ nI c := nI_le (by omega) (by omega)
        exact Or.inl ⟨nI c, by simp only [m_X3_viableCount_b42, bc, Option.bind_some, cc, if_true], c, g1, rfl, g4, fun h => absurd h (Nat.lt_irrefl _)⟩
      · have cc : ¬ nI n ≤ nI c := nI_ge (by omega) (by omega)
        have e3 : nI c + 1 = nI (c + 1) := nI_1 c
        by_cases q : rcd T g n ne (c + 1)
        · have cn := contains_t (J := b) f2 (k := c + 1) (by omega) ((hrc _ (by omega)).mpr q)
          refine Or.inr ⟨nI (c + 1), n - (c + 1), by omega, by simp only [m_X3_viableCount_b42, bc, Option.bind_some, cc, if_false, e3, cn]; rfl, c + 1, by omega, rfl, rfl, fun c' h => ?_⟩
          by_cases o : c' = c
          · subst o; exact q
          · exact g4 c' (by omega)
        · have cn := contains_f (J := b) f2 (k := c + 1) (by omega) (fun h => q ((hrc _ (by omega)).mp h))
          exact Or.inl ⟨nI c, by simp only [m_X3_viableCount_b42, bc, Option.bind_some, cc, if_false, e3, cn]; rfl, c, g1, rfl, g4, fun _ => q⟩) FU n (0 : Int32) (by unfold FU; omega) ⟨0, by omega, rfl, rfl, fun c' h => absurd h (Nat.not_lt_zero _)⟩
  obtain ⟨c', o1, o2, o3, o4⟩ := v2
  refine ⟨c', b, ?_, o1, o3, o4, f3.d⟩
  simp only [m_X3_viableCount, bnd, f1, Option.bind_some, v1, o2]
