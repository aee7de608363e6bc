theorem FM {J : Mem} {T : Nat → Nat → Nat} {g : Nat → Nat} {n ni ne d : Nat} (hB : MB J T ni ne d n g) :
    ∃ J', m_X3_findMarks 33 d J = some J' ∧ MKs J' T g n ni ∧ ∀ a b, a ≠ 34 → J' a b = J a b := by
  have hB0 := hB
  obtain ⟨hC, hS, ⟨d', hm⟩, hn, h2, h3⟩ := hB
  have k0 := hS.1
  have k1 := hS.2.1
  obtain ⟨b, f1, f2⟩ := loop_run (body := fun a => m_X3_findMarks_b2 33 d a.1 a.2)
    (Inv := fun r a => ∃ i, i ≤ ni ∧ r = ni - i ∧ a.1 = nI i ∧ (∀ i', i' < i → Bt (a.2 34 i') (mk T g n i')) ∧ ∀ a' b', a' ≠ 34 → a.2 a' b' = J a' b')
    (Post := fun b => MKs b T g n ni ∧ ∀ a' b', a' ≠ 34 → b a' b' = J a' b') (fun r a ⟨i, h1, hr, h4, h6, h7⟩ => by
      obtain ⟨x2, I⟩ := a
      simp only at h4 h6 h7
      subst h4
      have c1 : I 1 4 = nI ni := by rw [h7 _ _ (by omega), hC.1]
      by_cases z : i = ni
      · subst z
        refine Or.inl ⟨I, ?_, h6, h7⟩
        have c : nI i ≤ nI i := nI_le (by omega) (by omega)
        simp only [m_X3_findMarks_b2, Nat.reduceSub, m_X8_itemCount, c1, Option.bind_some, c, if_true]
      · have hin : i < ni := by omega
        have c : ¬ nI ni ≤ nI i := nI_ge hin (by omega)
        have t := hS.2.2.1 i hin
        have hCI : SchC I T ni ne false := hC.congr2 (by omega) (by omega) fun a b hd ha => h7 a b (by unfold DSch at hd; omega)
        have w1 := itemAt_ok hCI (by omega) hin
        have w2 := io_it i (by omega)
        have w3 : I (6 + i) 0 = nI (T 0 i) := by rw [h7 _ _ (by omega), (hC.2.2.2.1 i hin).1]
        have w8 := fun v => put10 (a := 34) (v := v) (I := I) (show i < 10 by omega)
        have h2I : I d 2 = nI (n + 2) := by rw [h7 _ _ (by omega), h2]
        have bc := bC hn h2I
        obtain ⟨v, u1, u2⟩ := loop_run (body := fun a => m_X3_findMarks_b18 33 d (nI i) a.1 a.2 I)
          (Inv := fun r a => ∃ s, s ≤ n ∧ r = n - s ∧ a.2 = nI s ∧ Bt a.1 (fun p => p < s ∧ g p = T 0 i)) (Post := fun b => Bt b (mk T g n i)) (fun r a ⟨s, g1, g2, g3, g4⟩ => by
            obtain ⟨x3, x4⟩ := a
            simp only at g3 g4
            subst g3
            by_cases y : s = n
            · subst y
              have c : nI s ≤ nI s := nI_le (by omega) (by omega)
              exact Or.inl ⟨x3, by simp only [m_X3_findMarks_b18, bc, Option.bind_some, c, if_true], g4⟩
            · have hs : s < n := by omega
              have c : ¬ nI n ≤ nI s := nI_ge hs (by omega)
              have ba := bA hm hn h2I hs
              have io := io_seg hm (show s < 18 by omega)
              have mkv : I (d + 8 + 3 * s) 3 = nI (g s) := by rw [h7 _ _ (by omega), (h3 s hs).1]
              have ok := okc_n' (h3 s hs).2
              have e3 : nI s + 1 = nI (s + 1) := nI_1 s
              have eqv : (nI (g s) = nI (T 0 i)) = (g s = T 0 i) := eqc (h3 s hs).2 (by omega)
              by_cases q : g s = T 0 i
              · refine Or.inr ⟨(x3 ||| ((1 : Int32) <<< (nI s &&& 31)), nI (s + 1)), n - (s + 1), by omega, ?_, s + 1, by omega, rfl, rfl, (g4.or (Bt.one (by omega))).cg fun p => ?_⟩
                · have q' := eqv.mpr q
                  simp only [m_X3_findMarks_b18, bc, Option.bind_some, c, if_false, ba, io, gd_t, m_X9_mark, mkv, ok, Nat.reduceSub, w1, w2, w3, if_pos q', m_X3_findMarks_j57, e3]
                · constructor
                  · rintro (⟨a, b⟩ | a)
                    · exact ⟨by omega, b⟩
                    · subst a; exact ⟨by omega, q⟩
                  · rintro ⟨a, b⟩
                    by_cases o : p = s
                    · exact Or.inr o
                    · exact Or.inl ⟨by omega, b⟩
              · refine Or.inr ⟨(x3, nI (s + 1)), n - (s + 1), by omega, ?_, s + 1, by omega, rfl, rfl, g4.cg fun p => ?_⟩
                · have q' : ¬ nI (g s) = nI (T 0 i) := fun h => q (eqv.mp h)
                  simp only [m_X3_findMarks_b18, bc, Option.bind_some, c, if_false, ba, io, gd_t, m_X9_mark, mkv, ok, Nat.reduceSub, w1, w2, w3, if_neg q', m_X3_findMarks_j57, e3]
                · constructor
                  · rintro ⟨a, b⟩; exact ⟨by omega, b⟩
                  · rintro ⟨a, b⟩
                    refine ⟨Nat.lt_of_not_le fun o => ?_, b⟩
                    have : p = s := by omega
                    subst this
                    exact q b) FU n ((0 : Int32), (0 : Int32)) (by unfold FU; omega) ⟨0, by omega, rfl, rfl, Bt.zero.cg fun p => ⟨fun h => h.elim, fun h => absurd h.1 (Nat.not_lt_zero _)⟩⟩
        refine Or.inr ⟨(nI (i + 1), ms I 34 i v), ni - (i + 1), by omega, ?_, i + 1, by omega, rfl, rfl, fun i' hi' => ?_, fun a b hne => ?_⟩
        · have e3 : nI i + 1 = nI (i + 1) := nI_1 i
          simp only [m_X3_findMarks_b2, Nat.reduceSub, Nat.reduceAdd, m_X8_itemCount, c1, Option.bind_some, c, if_false, u1, w8, e3]
        · show Bt (ms I 34 i v 34 i') _
          by_cases y : i' = i
          · subst y
            rw [ms_s rfl rfl]
            exact u2
          · rw [ms_o (by omega)]
            exact h6 i' (by omega)
        · show ms I 34 i v a b = _
          rw [ms_o (by omega), h7 a b hne]) FU ni ((0 : Int32), J) (by unfold FU; omega) ⟨0, by omega, rfl, rfl, fun i' h => absurd h (Nat.not_lt_zero _), fun _ _ _ => rfl⟩
  exact ⟨b, by simp only [m_X3_findMarks, f1, Option.bind_some], f2.1, f2.2⟩
theorem CD {J : Mem} {T : Nat → Nat → Nat} {g : Nat → Nat} {n ni ne d : Nat} (hB : MB J T ni ne d n g) :
    ∃ r J', m_X3_canDivide 33 d J = some (r, J') ∧ ((r = 1 ∧ rs T g n ne ne 0) ∨ (r = 0 ∧ ¬ rs T g n ne ne 0)) ∧ MKs J' T g n ni ∧ RSs J' T g n ne ∧ FrD d n J J' := by
  obtain ⟨J1, m1, m2, m3⟩ := FM hB
  have hB1 : MB J1 T ni ne d n g := hB.fr fun a b h1 h2 h3 => m3 a b (by omega)
  obtain ⟨hC, hS, ⟨d', hm⟩, hn, h2, h3⟩ := hB1
  have k0 := hS.1
  have k1 := hS.2.1
  have c5 : J1 1 5 = nI ne := hC.2.1
  have bc := bC hn h2
  have i1 := fun v => put12 (a := 35) (v := v) (I := J1) (show ne < 12 by omega)
  obtain ⟨b, f1, f2⟩ := loop_run (body := fun a => m_X3_canDivide_b31 33 a.1 a.2)
    (Inv := fun r a => ∃ e, e ≤ ne ∧ r = e ∧ a.1 = nI e - 1 ∧ (∀ e', e ≤ e' → e' ≤ ne → Bt (a.2 35 e') (rs T g n ne (ne - e'))) ∧ ∀ a' b', a' ≠ 35 → a' ≠ 36 → a' ≠ 37 → a.2 a' b' = J1 a' b')
    (Post := fun b => RSs b T g n ne ∧ ∀ a' b', a' ≠ 35 → a' ≠ 36 → a' ≠ 37 → b a' b' = J1 a' b') (fun r a ⟨e, g1, g3, g4, g6, g7⟩ => by
      obtain ⟨x3, I⟩ := a
      simp only at g4 g6 g7
      subst g4
      by_cases z : e = 0
      · have c : nI e - 1 < 0 := (pm_0 (by omega)).mpr z
        exact Or.inl ⟨I, by simp only [m_X3_canDivide_b31, c, if_true], fun e' he' => g6 e' (by omega) he', g7⟩
      · obtain ⟨u, rfl⟩ : ∃ u, e = u + 1 := ⟨e - 1, by omega⟩
        rw [nI_pred]
        have c : ¬ nI u < 0 := nI_pos (by omega)
        have hCI : SchC I T ni ne false := hC.congr2 (by omega) (by omega) fun a b hd ha => by unfold DSch at hd; exact g7 a b (by omega) (by omega) (by omega)
        have hMI : MKs I T g n ni := fun i hi => by rw [g7 _ _ (by omega) (by omega) (by omega)]; exact m2 i hi
        have w1 := entryAt_ok hCI (by omega) (show u < ne by omega)
        have w2 := io_en u (by omega)
        have w5 : nI u + 1 = nI (u + 1) := nI_1 u
        have w6 := at12 (a := 35) (I := I) (show u + 1 < 12 by omega)
        obtain ⟨I', p1, p2, p3⟩ := pFA hCI hS hMI (show u < ne by omega) (g6 (u + 1) (by omega) (by omega))
        have w8 := fun v => put12 (a := 35) (v := v) (I := I') (show u < 12 by omega)
        have w10 : m_X3_at10 36 (0 : Int32) I' = some (I' 36 0) := at10 (i := 0) (by omega)
        refine Or.inr ⟨(nI u - 1, ms I' 35 u (I' 36 0)), u, by omega, ?_, u, by omega, rfl, rfl, fun e' a b => ?_, fun a b h1 h2 h3 => ?_⟩
        · simp only [m_X3_canDivide_b31, c, if_false, Nat.reduceSub, Nat.reduceAdd, w1, Option.bind_some, w2, gd_t, w5, w6, p1, w10, w8, p_m1]
        · show Bt (ms I' 35 u (I' 36 0) 35 e') _
          by_cases y : e' = u
          · subst y
            rw [ms_s rfl rfl]
            have := p2 0 (by omega)
            rw [Nat.sub_zero] at this
            refine this.cg fun p => ?_
            rw [show ne - e' = (ne - (e' + 1)) + 1 by omega]
            simp only [rs]
            rw [show ne - (ne - (e' + 1) + 1) = e' by omega]
          · rw [ms_o (by omega), p3 _ _ (by omega) (by omega)]
            exact g6 e' (by omega) b
        · show ms I' 35 u _ a b = _
          rw [ms_o (by omega), p3 _ _ h2 h3, g7 a b h1 h2 h3]) FU ne (nI ne - 1, ms J1 35 ne ((1 : Int32) <<< (nI n &&& 31))) (by unfold FU; omega)
    ⟨ne, by omega, rfl, rfl, fun e' a b => by
      have : e' = ne := by omega
      subst this
      rw [Nat.sub_self]
      show Bt (ms J1 35 e' _ 35 e') _
      rw [ms_s rfl rfl]
      exact (Bt.one (by omega)).cg fun p => Iff.rfl, fun a b h1 h2 h3 => ms_o (by omega)⟩
  obtain ⟨f2, f3⟩ := f2
  have hMb : MKs b T g n ni := fun i hi => by rw [f3 _ _ (by omega) (by omega) (by omega)]; exact m2 i hi
  have hFr : FrD d n J b := fun a b' h1 h2 h3 => by rw [f3 a b' (by omega) (by omega) (by omega), m3 a b' (by omega)]
  have h0 := f2 0 (by omega)
  rw [Nat.sub_zero] at h0
  have w10 : m_X3_at12 35 (0 : Int32) b = some (b 35 0) := at12 (i := 0) (by omega)
  by_cases q : rs T g n ne ne 0
  · have cc : m_X3_contains (b 35 0) (0 : Int32) b = some 1 := contains_t (k := 0) h0 (by omega) q
    exact ⟨1, b, by simp only [m_X3_canDivide, m1, Option.bind_some, Nat.reduceSub, Nat.reduceAdd, m_X8_entryCount, c5, bc, i1, f1, w10, cc]; rfl, Or.inl ⟨rfl, q⟩, hMb, f2, hFr⟩
  · have cc : m_X3_contains (b 35 0) (0 : Int32) b = some 0 := contains_f (k := 0) h0 (by omega) q
    exact ⟨0, b, by simp only [m_X3_canDivide, m1, Option.bind_some, Nat.reduceSub, Nat.reduceAdd, m_X8_entryCount, c5, bc, i1, f1, w10, cc]; rfl, Or.inr ⟨rfl, q⟩, hMb, f2, hFr⟩
theorem gTs {J : Mem} {T : Nat → Nat → Nat} {g : Nat → Nat} {n ni ne dd j p : Nat} {S : Nat → Prop} (hC : SchC J T ni ne false) (hS : SF T ni ne) (hj : j < ni) (hp : p ≤ 18) (hm : Bt (J 34 j) (mk T g n j)) (hb : Bt (J 37 (j + 1)) (bg T g n S dd (j + 1)))
    (hz : bg T g n S (dd + 1) j p) : ∃ x, m_X3_greatestTimes 33 (nI j) (nI p) J = some (nI x) ∧ GT T g n S dd j p x := by
  have k0 := hS.1
  have t := hS.2.2.1 j hj
  have w1 := itemAt_ok hC (by omega) hj
  have w2 := io_it j (by omega)
  obtain ⟨s1, s2, s3⟩ := hC.2.2.2.1 j hj
  have w5 : nI j + 1 = nI (j + 1) := nI_1 j
  have w6 := at11 (a := 37) (I := J) (show j + 1 < 11 by omega)
  have w8 := at10 (a := 34) (I := J) (show j < 10 by omega)
  obtain ⟨V, hV⟩ : ∃ V : Nat → Prop, V = fun z => T 1 j ≤ z ∧ z ≤ T 2 j ∧ (∀ y, y < z → mk T g n j (p + y)) ∧ bg T g n S dd (j + 1) (p + z) := ⟨_, rfl⟩
  have hex : ∃ z, V z := by
    rw [hV]
    rcases hz with ⟨z, a, b, c, d⟩ | ⟨a, b⟩
    · exact ⟨z, by omega, b, d, c⟩
    · exact ⟨0, by omega, by omega, fun y hy => absurd hy (Nat.not_lt_zero _), b⟩
  have hP : ∀ x, (∀ z, V z → z ≤ x) → V x → GT T g n S dd j p x := fun x a b => by
    rw [hV] at b
    exact ⟨b, fun z c => a z (by rw [hV]; exact c)⟩
  obtain ⟨b, f1, f2⟩ := loop_run (body := fun a => m_X3_greatestTimes_b27 33 (nI j) (nI p) (6 + j) (J 37 (j + 1)) a.1 a.2 J)
    (Inv := fun r a => ∃ u gr, u ≤ T 2 j + 1 ∧ r = T 2 j + 1 - u ∧ a.2 = nI u ∧ a.1 = nI gr ∧ (∀ y, y < u → mk T g n j (p + y)) ∧ (∀ z, z < u → V z → z ≤ gr) ∧ ((∃ z, z < u ∧ V z) → V gr))
    (Post := fun b => smP (fun y => ∃ x, y = nI x ∧ GT T g n S dd j p x) (fun y => ∃ x, y = nI x ∧ GT T g n S dd j p x) b) (fun r a ⟨u, gr, g1, g2, g3, g4, g5, g6, g7⟩ => by
      obtain ⟨x4, x5⟩ := a
      simp only at g3 g4
      subst g3
      subst g4
      by_cases z : T 2 j < u
      · have c : nI (T 2 j) < nI u := nI_lt z (by omega)
        have all : ∀ z, V z → z < u := fun y hy => by rw [hV] at hy; have := hy.2.1; omega
        refine Or.inl ⟨.inl (nI gr), by simp only [m_X3_greatestTimes_b27, s3, c, if_true], gr, rfl, hP gr (fun z hz => g6 z (all z hz) hz) ?_⟩
        obtain ⟨z, hz⟩ := hex
        exact g7 ⟨z, all z hz, hz⟩
      · have c : ¬ nI (T 2 j) < nI u := nI_nlt (by omega) (by omega)
        have e3 : nI u + 1 = nI (u + 1) := nI_1 u
        have e4 : nI p + nI u = nI (p + u) := nI_add p u
        have body : ∀ gr', (∀ z, z < u + 1 → V z → z ≤ gr') → ((∃ z, z < u + 1 ∧ V z) → V gr') → m_X3_greatestTimes_b27 33 (nI j) (nI p) (6 + j) (J 37 (j + 1)) (nI gr) (nI u) J = m_X3_greatestTimes_j61 33 (nI j) (nI p) (6 + j) (J 37 (j + 1)) (nI gr') (nI u) J →
            (∃ b, m_X3_greatestTimes_b27 33 (nI j) (nI p) (6 + j) (J 37 (j + 1)) (nI gr) (nI u) J = some (.inr b) ∧ smP (fun y => ∃ x, y = nI x ∧ GT T g n S dd j p x) (fun y => ∃ x, y = nI x ∧ GT T g n S dd j p x) b) ∨ ∃ a' n', n' < r ∧ m_X3_greatestTimes_b27 33 (nI j) (nI p) (6 + j) (J 37 (j + 1)) (nI gr) (nI u) J = some (.inl a') ∧
              ∃ u gr, u ≤ T 2 j + 1 ∧ n' = T 2 j + 1 - u ∧ a'.2 = nI u ∧ a'.1 = nI gr ∧ (∀ y, y < u → mk T g n j (p + y)) ∧ (∀ z, z < u → V z → z ≤ gr) ∧ ((∃ z, z < u ∧ V z) → V gr) := fun gr' o1 o2 o3 => by
          rw [o3]
          by_cases q : mk T g n j (p + u)
          · have cc := contains_t (J := J) hm (by omega) q
            refine Or.inr ⟨(nI gr', nI (u + 1)), T 2 j + 1 - (u + 1), by omega, ?_, u + 1, gr', by omega, rfl, rfl, rfl, fun y hy => ?_, o1, o2⟩
            · simp only [m_X3_greatestTimes_j61, w8, Nat.reduceAdd, e4, cc, Option.bind_some, e3]
              rfl
            · by_cases v : y < u
              · exact g5 y v
              · rw [show y = u by omega]; exact q
          · have cc := contains_f (J := J) hm (by omega) q
            have all : ∀ z, V z → z < u + 1 := fun y hy => by
              rw [hV] at hy
              exact Nat.lt_of_not_le fun h => q (hy.2.2.1 u (by omega))
            refine Or.inl ⟨.inr (nI gr'), ?_, gr', rfl, hP gr' (fun z hz => o1 z (all z hz) hz) ?_⟩
            · simp only [m_X3_greatestTimes_j61, w8, Nat.reduceAdd, e4, cc, Option.bind_some]
              rfl
            · obtain ⟨z, hz⟩ := hex
              exact o2 ⟨z, all z hz, hz⟩
        by_cases l : u < T 1 j
        · have c2 : nI u < nI (T 1 j) := nI_lt l (by omega)
          have no : ¬ V u := fun h => by rw [hV] at h; have := h.1; omega
          refine body gr (fun z a b => ?_) (fun ⟨z, a, b⟩ => ?_) (by simp only [m_X3_greatestTimes_b27, s3, c, if_false, s2, c2, if_true])
          · by_cases v : z = u
            · subst v; exact absurd b no
            · exact g6 z (by omega) b
          · by_cases v : z = u
            · subst v; exact absurd b no
            · exact g7 ⟨z, by omega, b⟩
        · have c2 : ¬ nI u < nI (T 1 j) := nI_nlt (by omega) (by omega)
          by_cases q : bg T g n S dd (j + 1) (p + u)
          · have cc := contains_t (J := J) hb (by omega) q
            have yes : V u := by rw [hV]; exact ⟨by omega, by omega, g5, q⟩
            refine body u (fun z a b => by omega) (fun _ => yes) (by simp only [m_X3_greatestTimes_b27, s3, c, if_false, s2, c2, e4, cc, Option.bind_some]; rfl)
          · have cc := contains_f (J := J) hb (by omega) q
            have no : ¬ V u := fun h => by rw [hV] at h; exact q h.2.2.2
            refine body gr (fun z a b => ?_) (fun ⟨z, a, b⟩ => ?_) (by simp only [m_X3_greatestTimes_b27, s3, c, if_false, s2, c2, e4, cc, Option.bind_some]; rfl)
            · by_cases v : z = u
              · subst v; exact absurd b no
              · exact g6 z (by omega) b
            · by_cases v : z = u
              · subst v; exact absurd b no
              · exact g7 ⟨z, by omega, b⟩) FU (T 2 j + 1) ((0 : Int32), (0 : Int32)) (by unfold FU; omega)
    ⟨0, 0, by omega, rfl, rfl, rfl, fun y hy => absurd hy (Nat.not_lt_zero _), fun z hz => absurd hz (Nat.not_lt_zero _), fun ⟨z, hz, _⟩ => absurd hz (Nat.not_lt_zero _)⟩
  cases b with
  | inl y =>
    obtain ⟨x, h1, h2⟩ := f2
    exact ⟨x, by simp only [m_X3_greatestTimes, Nat.reduceSub, Nat.reduceAdd, w1, Option.bind_some, w2, gd_t, w5, w6, f1, sm, h1], h2⟩
  | inr y =>
    obtain ⟨x, h1, h2⟩ := f2
    exact ⟨x, by simp only [m_X3_greatestTimes, Nat.reduceSub, Nat.reduceAdd, w1, Option.bind_some, w2, gd_t, w5, w6, f1, sm, h1], h2⟩
