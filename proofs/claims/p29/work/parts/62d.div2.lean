def FrS (d n : Nat) (J J' : Mem) : Prop := ∀ a b, ¬ ((b = 5 ∨ b = 6) ∧ ∃ s, s < n ∧ a = d + 8 + 3 * s) → J' a b = J a b
theorem FrS.d {d n : Nat} {J J' : Mem} (h : FrS d n J J') : FrD d n J J' := fun a b _ _ h3 => h a b h3
theorem FrS.tr {d n : Nat} {A B C : Mem} (h : FrS d n A B) (h2 : FrS d n B C) : FrS d n A C := fun a b z => (h2 a b z).trans (h a b z)
def AS (J : Mem) (d p : Nat) (w : Nat → Nat) : Prop := ∀ s, s < p → J (d + 8 + 3 * s) 5 = nI (w (s + 1) / 100) ∧ J (d + 8 + 3 * s) 6 = nI (w (s + 1) / 10 % 10)
theorem asg_ok {J : Mem} {T : Nat → Nat → Nat} {g w : Nat → Nat} {n ni ne d e q j p x : Nat} (hB : MB J T ni ne d n g) (he : e < ne) (hq : q ≤ T 7 e) (hj : j < 10) (hx9 : x ≤ 9) (hA : AS J d p w) (hw : ∀ y, y < x → w (p + y + 1) = 100 * j + 10 * qq T e q + (y + 1)) (hpx : p + x ≤ n) :
    ∃ J', loopF (fun a => m_X3_dividePass_b33 33 d (16 + e) (nI q) (nI p) (nI j) (nI x) a.1 a.2) FU (nI p, J) = some J' ∧ AS J' d (p + x) w ∧ FrS d n J J' := by
  obtain ⟨hC, hS, ⟨d', hm⟩, hn, h2, h3⟩ := hB
  have k := hS.2.2.2.1 e he
  have kq := qq_le hS he hq
  obtain ⟨b, f1, f2⟩ := loop_run (body := fun a => m_X3_dividePass_b33 33 d (16 + e) (nI q) (nI p) (nI j) (nI x) a.1 a.2)
    (Inv := fun r a => ∃ y, y ≤ x ∧ r = x - y ∧ a.1 = nI (p + y) ∧ AS a.2 d (p + y) w ∧ FrS d n J a.2)
    (Post := fun b => AS b d (p + x) w ∧ FrS d n J b) (fun r a ⟨y, g1, g2, g3, g4, g5⟩ => by
      obtain ⟨x8, I⟩ := a
      simp only at g3 g4 g5
      subst g3
      have e4 : nI p + nI x = nI (p + x) := nI_add p x
      by_cases z : y = x
      · subst z
        have c : nI (p + y) ≤ nI (p + y) := nI_le (by omega) (by omega)
        exact Or.inl ⟨I, by simp only [m_X3_dividePass_b33, e4, c, if_true], g4, g5⟩
      · have c : ¬ nI (p + x) ≤ nI (p + y) := nI_ge (by omega) (by omega)
        have h2I : I d 2 = nI (n + 2) := by rw [g5 _ _ (by omega), h2]
        have ba := bA hm hn h2I (show p + y < n by omega)
        have io := io_seg hm (show p + y < 18 by omega)
        have l0 : I (16 + e) 0 = nI (T 3 e) := by rw [g5 _ _ (by omega), (hC.2.2.2.2 e he).1]
        have e3 : nI (p + y) + 1 = nI (p + (y + 1)) := nI_1 (p + y)
        obtain ⟨c1, c2, c3, c4⟩ := code_d (i := j) (q := qq T e q) (many := y + 1) hj kq (by omega)
        have hv : ∀ v, v = nI (qq T e q) → AS (ms (ms I (d + 8 + 3 * (p + y)) 5 (nI j)) (d + 8 + 3 * (p + y)) 6 v) d (p + (y + 1)) w ∧ FrS d n J (ms (ms I (d + 8 + 3 * (p + y)) 5 (nI j)) (d + 8 + 3 * (p + y)) 6 v) := fun v hv => by
          refine ⟨fun s hs => ?_, fun a b hab => ?_⟩
          · by_cases o : s = p + y
            · subst o
              rw [hw y (by omega), c2, c3, ms_o (by omega), ms_s rfl rfl, ms_s rfl rfl]
              exact ⟨rfl, hv⟩
            · rw [ms_o (by omega), ms_o (by omega), ms_o (by omega), ms_o (by omega)]
              exact g4 s (by omega)
          · have n1 : ¬ ((b = 5 ∨ b = 6) ∧ a = d + 8 + 3 * (p + y)) := fun h => hab ⟨h.1, p + y, by omega, h.2⟩
            rw [ms_o (by omega), ms_o (by omega)]
            exact g5 a b hab
        by_cases l : T 3 e = 0
        · have l1 : nI (T 3 e) = 0 := by rw [l]; rfl
          refine Or.inr ⟨(nI (p + (y + 1)), ms (ms I (d + 8 + 3 * (p + y)) 5 (nI j)) (d + 8 + 3 * (p + y)) 6 0), x - (y + 1), by omega, ?_, y + 1, by omega, rfl, rfl, hv 0 (by unfold qq; rw [if_neg (by omega)]; rfl)⟩
          simp only [m_X3_dividePass_b33, e4, c, if_false, ba, Option.bind_some, io, gd_t, l0, if_pos l1, m_X3_dividePass_j63, m_X9_assign, bnd, e3]
        · have l1 : ¬ nI (T 3 e) = 0 := nI_ne0 (by omega) (by omega)
          refine Or.inr ⟨(nI (p + (y + 1)), ms (ms I (d + 8 + 3 * (p + y)) 5 (nI j)) (d + 8 + 3 * (p + y)) 6 (nI q)), x - (y + 1), by omega, ?_, y + 1, by omega, rfl, rfl, hv (nI q) (by unfold qq; rw [if_pos (by omega)])⟩
          simp only [m_X3_dividePass_b33, e4, c, if_false, ba, Option.bind_some, io, gd_t, l0, if_neg l1, m_X3_dividePass_j63, m_X9_assign, bnd, e3]) FU x (nI p, J) (by unfold FU; omega) ⟨0, by omega, rfl, rfl, hA, fun _ _ _ => rfl⟩
  exact ⟨b, f1, f2⟩
theorem dP {J : Mem} {T : Nat → Nat → Nat} {g : Nat → Nat} {n ni ne d e q p : Nat} {eo : Nat → Nat} (hB : MB J T ni ne d n g) (hM : MKs J T g n ni) (hE : EO T ne eo) (he : e < ne) (hq : 1 ≤ q ∧ q ≤ T 7 e) (hp : p ≤ n)
    (hb : ∀ j, T 4 e ≤ j → j ≤ T 5 e → Bt (J 37 j) (bg T g n (af T g n e (rs T g n ne (ne - (e + 1))) (T 7 e - q)) (T 5 e - j) j)) (hJ : SJ T g n ni ne eo e q (T 4 e) p) (hA : AS J d p (pth T g n ni ne eo)) :
    ∃ p' J', m_X3_dividePass 33 d (16 + e) (nI q) (nI p) J = some (nI p', J') ∧ p' ≤ n ∧ SN T g n ni ne eo e q p' ∧ AS J' d p' (pth T g n ni ne eo) ∧ FrS d n J J' := by
  have hB0 := hB
  obtain ⟨hC, hS, ⟨d', hm⟩, hn, h2, h3⟩ := hB
  have k0 := hS.1
  have k := hS.2.2.2.1 e he
  obtain ⟨q1, q2, q3, q4, q5⟩ := hC.2.2.2.2 e he
  obtain ⟨b, f1, f2⟩ := loop_run (body := fun a => m_X3_dividePass_b10 33 d (16 + e) (nI q) a.1 a.2.1 a.2.2)
    (Inv := fun r a => ∃ j p', T 4 e ≤ j ∧ j ≤ T 5 e ∧ r = T 5 e - j ∧ p' ≤ n ∧ a.1 = nI p' ∧ a.2.1 = nI j ∧ SJ T g n ni ne eo e q j p' ∧ AS a.2.2 d p' (pth T g n ni ne eo) ∧ FrS d n J a.2.2)
    (Post := fun b => ∃ p', b.1 = nI p' ∧ p' ≤ n ∧ SN T g n ni ne eo e q p' ∧ AS b.2 d p' (pth T g n ni ne eo) ∧ FrS d n J b.2) (fun r a ⟨j, p', g1, g2, g3, g4, g5, g6, g7, g8, g9⟩ => by
      obtain ⟨x5, x6, I⟩ := a
      simp only at g5 g6 g8 g9
      subst g5
      subst g6
      have l2 : I (16 + e) 2 = nI (T 5 e) := by rw [g9 _ _ (by omega), q3]
      by_cases z : j = T 5 e
      · subst z
        have c : nI (T 5 e) ≤ nI (T 5 e) := nI_le (by omega) (by omega)
        exact Or.inl ⟨(nI p', I), by simp only [m_X3_dividePass_b10, l2, c, if_true], p', rfl, g4, g7.done, g8, g9⟩
      · have c : ¬ nI (T 5 e) ≤ nI j := nI_ge (by omega) (by omega)
        have hCI : SchC I T ni ne false := hC.congr2 (by omega) (by have := hS.2.1; omega) fun a b hd ha => g9 a b (by unfold DSch at hd; rintro ⟨_, s, _, h⟩; omega)
        have hd : T 5 e - j = (T 5 e - (j + 1)) + 1 := by omega
        have hz := g7.1
        rw [hd] at hz
        obtain ⟨x, y1, y2⟩ := gTs (J := I) (p := p') hCI hS (show j < ni by omega) (by omega) (by rw [g9 _ _ (by rintro ⟨_, s, _, h⟩; omega)]; exact hM j (by omega)) (by rw [g9 _ _ (by rintro ⟨_, s, _, h⟩; omega)]; exact hb (j + 1) (by omega) (by omega)) hz
        have hst := SJ.step hS hE he hq ⟨g1, by omega⟩ g7 y2
        have t := hS.2.2.1 j (by omega)
        have hx9 : x ≤ 9 := by have := y2.1.2.1; omega
        have hpx : p' + x ≤ n := by
          cases x with
          | zero => omega
          | succ x => have := (y2.1.2.2.1 x (by omega)).1; omega
        have hBI : MB I T ni ne d n g := hB0.fr g9.d
        obtain ⟨I', u1, u2, u3⟩ := asg_ok (q := q) hBI he hq.2 (show j < 10 by omega) hx9 g8 hst.1 hpx
        have e4 : nI p' + nI x = nI (p' + x) := nI_add p' x
        have e5 : nI j + 1 = nI (j + 1) := nI_1 j
        refine Or.inr ⟨(nI (p' + x), nI (j + 1), I'), T 5 e - (j + 1), by omega, ?_, j + 1, p' + x, by omega, by omega, rfl, hpx, rfl, rfl, hst.2, u2, g9.tr u3⟩
        simp only [m_X3_dividePass_b10, l2, c, if_false, y1, Option.bind_some, u1, e4, e5]) FU (T 5 e - T 4 e) (nI p, nI (T 4 e), J) (by unfold FU; omega) ⟨T 4 e, p, by omega, by omega, rfl, hp, rfl, rfl, hJ, hA, fun _ _ _ => rfl⟩
  obtain ⟨p', a1, a2, a3, a4, a5⟩ := f2
  refine ⟨p', b.2, ?_, a2, a3, a4, a5⟩
  simp only [m_X3_dividePass, q2, f1, Option.bind_some, a1]
theorem DV {J : Mem} {T : Nat → Nat → Nat} {g : Nat → Nat} {n ni ne d : Nat} {eo : Nat → Nat} (hB : MB J T ni ne d n g) (hM : MKs J T g n ni) (hR : RSs J T g n ne) (hE : EO T ne eo) (h0 : hop T g n ni ne eo n 1000 = true) :
    ∃ J', m_X3_divide 33 d J = some J' ∧ AS J' d n (pth T g n ni ne eo) ∧ FrD d n J J' := by
  have hB0 := hB
  obtain ⟨hC, hS, ⟨d', hm⟩, hn, h2, h3⟩ := hB
  have k0 := hS.1
  have k1 := hS.2.1
  have frm : ∀ {A B : Mem} {i : Nat}, FrD d n A B → (∀ b, B 34 b = A 34 b ∧ B 35 b = A 35 b) → MKs A T g n ni → MKs B T g n ni := fun _ hc h i hi => by rw [(hc i).1]; exact h i hi
  obtain ⟨b, f1, f2⟩ := loop_run (body := fun a => m_X3_divide_b4 33 d a.1 a.2.1 a.2.2)
    (Inv := fun r a => ∃ e p, e ≤ ne ∧ r = ne - e ∧ p ≤ n ∧ a.1 = nI p ∧ a.2.1 = nI e ∧ S0 T g n ni ne eo e p ∧ AS a.2.2 d p (pth T g n ni ne eo) ∧ FrD d n J a.2.2 ∧ ∀ b, a.2.2 34 b = J 34 b ∧ a.2.2 35 b = J 35 b)
    (Post := fun b => AS b d n (pth T g n ni ne eo) ∧ FrD d n J b) (fun r a ⟨e, p, g1, g2, g3, g4, g5, g6, g7, g8, g9⟩ => by
      obtain ⟨x2, x3, I⟩ := a
      simp only at g4 g5 g7 g8 g9
      subst g4
      subst g5
      have hBI : MB I T ni ne d n g := hB0.fr g8
      have c5 : I 1 5 = nI ne := hBI.1.2.1
      by_cases z : e = ne
      · subst z
        have c : nI e ≤ nI e := nI_le (by omega) (by omega)
        have hpn : p = n := by have := g6.1; rw [Nat.sub_self] at this; exact this
        exact Or.inl ⟨I, by simp only [m_X3_divide_b4, Nat.reduceSub, m_X8_entryCount, c5, Option.bind_some, c, if_true], by rw [hpn] at g7; exact g7, g8⟩
      · have hlt : e < ne := by omega
        have k := hS.2.2.2.1 e hlt
        have c : ¬ nI ne ≤ nI e := nI_ge hlt (by omega)
        have w1 := entryAt_ok hBI.1 (by omega) hlt
        have w2 := io_en e (by omega)
        have w5 : nI e + 1 = nI (e + 1) := nI_1 e
        have w6 := at12 (a := 35) (I := I) (show e + 1 < 12 by omega)
        have hMI : MKs I T g n ni := fun i hi => by rw [(g9 i).1]; exact hM i hi
        have hRI : Bt (I 35 (e + 1)) (rs T g n ne (ne - (e + 1))) := by rw [(g9 (e + 1)).2]; exact hR (e + 1) (by omega)
        obtain ⟨I4, p1, p2, p3⟩ := pFA hBI.1 hS hMI hlt hRI
        have fr4 : FrD d n I I4 := fun a b h1 h2 h3 => p3 a b (by omega) (by omega)
        have hd' : d = 62 ∨ d = 127 := by omega
        have hA4 : AS I4 d p (pth T g n ni ne eo) := fun s hs => by rw [p3 _ _ (by omega) (by omega), p3 _ _ (by omega) (by omega)]; exact g7 s hs
        obtain ⟨b, v1, v2⟩ := loop_run (body := fun a => m_X3_divide_b44 33 d (nI e) (16 + e) a.1 a.2.1 a.2.2)
          (Inv := fun r a => ∃ q p, q ≤ T 7 e ∧ r = T 7 e - q ∧ p ≤ n ∧ a.1 = nI p ∧ a.2.1 = nI q ∧ SN T g n ni ne eo e q p ∧ AS a.2.2 d p (pth T g n ni ne eo) ∧ FrD d n J a.2.2 ∧ (∀ b, a.2.2 34 b = J 34 b ∧ a.2.2 35 b = J 35 b) ∧ ∀ b, a.2.2 36 b = I4 36 b)
          (Post := fun b => ∃ p, p ≤ n ∧ b.1 = nI p ∧ S0 T g n ni ne eo (e + 1) p ∧ AS b.2 d p (pth T g n ni ne eo) ∧ FrD d n J b.2 ∧ ∀ b', b.2 34 b' = J 34 b' ∧ b.2 35 b' = J 35 b') (fun r a ⟨q, p, g1, g2, g3, g4, g5, g6, g7, g8, g9, g10⟩ => by
            obtain ⟨x2, x5, I⟩ := a
            simp only at g4 g5 g7 g8 g9 g10
            subst g4
            subst g5
            have hBI : MB I T ni ne d n g := hB0.fr g8
            have l4 : I (16 + e) 4 = nI (T 7 e) := (hBI.1.2.2.2.2 e hlt).2.2.2.2
            by_cases z : q = T 7 e
            · subst z
              have c : nI (T 7 e) ≤ nI (T 7 e) := nI_le (by omega) (by omega)
              exact Or.inl ⟨(nI p, I), by simp only [m_X3_divide_b44, l4, c, if_true], p, g3, rfl, g6.stop hS hE hlt (by omega) (fun h => absurd h (Nat.lt_irrefl _)), g7, g8, g9⟩
            · have hq : q < T 7 e := by omega
              have c : ¬ nI (T 7 e) ≤ nI q := nI_ge hq (by omega)
              have w5 : nI q + 1 = nI (q + 1) := nI_1 q
              have w6 := at10 (a := 36) (I := I) (show q + 1 < 10 by omega)
              have hMI : MKs I T g n ni := fun i hi => by rw [(g9 i).1]; exact hM i hi
              have h36 : Bt (I 36 (q + 1)) (af T g n e (rs T g n ne (ne - (e + 1))) (T 7 e - (q + 1))) := by rw [g10]; exact p2 (q + 1) (by omega)
              obtain ⟨w, I5, u1, u2, u3, u4⟩ := pBP hBI.1 hS hMI hlt h36
              have hA5 : AS I5 d p (pth T g n ni ne eo) := fun s hs => by rw [u4 _ _ (by omega), u4 _ _ (by omega)]; exact g7 s hs
              have fr5 : FrD d n I I5 := fun a b h1 h2 h3 => u4 a b (by omega)
              have hB5 : MB I5 T ni ne d n g := hBI.fr fr5
              have h95 : ∀ b, I5 34 b = J 34 b ∧ I5 35 b = J 35 b := fun b => by rw [u4 _ _ (by omega), u4 _ _ (by omega)]; exact g9 b
              by_cases y : fr T g n (af T g n e (rs T g n ne (ne - (e + 1))) (T 7 e - (q + 1))) (T 5 e - T 4 e) (T 4 e) p
              · have cc := contains_t (J := I5) u2 (by omega) y
                have hJ := g6.go hS hE hlt hq y
                obtain ⟨p', I6, o1, o2, o3, o4, o5⟩ := dP (q := q + 1) hB5 (fun i hi => by rw [(h95 i).1]; exact hM i hi) hE hlt ⟨by omega, by omega⟩ g3 u3 hJ hA5
                refine Or.inr ⟨(nI p', nI (q + 1), I6), T 7 e - (q + 1), by omega, ?_, q + 1, p', by omega, rfl, o2, rfl, rfl, o3, o4, (g8.tr fr5).tr o5.d, fun b => ?_, fun b => ?_⟩
                · simp only [m_X3_divide_b44, l4, c, if_false, w5, w6, Nat.reduceAdd, u1, Option.bind_some, cc, o1]
                  rfl
                · show I6 34 b = J 34 b ∧ I6 35 b = J 35 b
                  rw [o5 _ _ (by rintro ⟨_, s, _, h⟩; omega), o5 _ _ (by rintro ⟨_, s, _, h⟩; omega)]
                  exact h95 b
                · show I6 36 b = I4 36 b
                  rw [o5 _ _ (by rintro ⟨_, s, _, h⟩; omega), u4 _ _ (by omega)]
                  exact g10 b
              · have cc := contains_f (J := I5) u2 (by omega) y
                refine Or.inl ⟨(nI p, I5), ?_, p, g3, rfl, g6.stop hS hE hlt (by omega) (fun _ => y), hA5, g8.tr fr5, h95⟩
                simp only [m_X3_divide_b44, l4, c, if_false, w5, w6, Nat.reduceAdd, u1, Option.bind_some, cc]
                rfl) FU (T 7 e) (nI p, (0 : Int32), I4) (by unfold FU; omega)
          ⟨0, p, by omega, rfl, g3, rfl, rfl, g6.next hS hlt, hA4, g8.tr fr4, fun b => by show I4 34 b = J 34 b ∧ I4 35 b = J 35 b; rw [p3 _ _ (by omega) (by omega), p3 _ _ (by omega) (by omega)]; exact g9 b, fun _ => rfl⟩
        obtain ⟨p', o1, o2, o3, o4, o5, o6⟩ := v2
        refine Or.inr ⟨(nI p', nI (e + 1), b.2), ne - (e + 1), by omega, ?_, e + 1, p', by omega, rfl, o1, rfl, rfl, o3, o4, o5, o6⟩
        simp only [m_X3_divide_b4, Nat.reduceSub, Nat.reduceAdd, m_X8_entryCount, c5, Option.bind_some, c, if_false, w1, w2, gd_t, w5, w6, p1, v1, o2]) FU ne ((0 : Int32), (0 : Int32), J) (by unfold FU; omega)
    ⟨0, 0, by omega, rfl, by omega, rfl, rfl, S0.start hS hE h0, fun s hs => absurd hs (Nat.not_lt_zero _), FrD.rf, fun _ => ⟨rfl, rfl⟩⟩
  exact ⟨b, by simp only [m_X3_divide, f1, Option.bind_some], f2⟩
