/-- the reference's cells as they were -/
def AgM (I K : Mem) : Prop := ∀ a b, ((a = 196 ∧ b ≠ 44 ∧ b ≠ 48) ∨ (197 ≤ a ∧ a ≤ 229 ∧ a ≠ 228)) → K a b = I a b
theorem AgM.fr {I K K' : Mem} (h : AgM I K) (h2 : FrM K K') : AgM I K' := fun a b hab => (h2 a b (by omega) (by omega)).trans (h a b hab)
theorem SegP.mc {I : Mem} {m s e : Nat} (h : SegP I m s) : ∃ c, c ≤ 5 ∧ I 215 s = nI c ∧ (e < c → I 216 (5 * s + e) = nI (sL I m s e)) ∧ (¬ e < c → sL I m s e = 0) := by
  obtain ⟨h1, h2, h3, h4, c, h5, h6, h7, h8⟩ := h
  refine ⟨c, h5, h7, fun he => ?_, fun he => ?_⟩
  · obtain ⟨l, a1, a2, a3, a4⟩ := h8 e he
    unfold sL
    rw [h6, nI_clamp (by omega), if_pos he, a2, nI_clamp (by omega), a3]
  · unfold sL
    rw [h6, nI_clamp (by omega), if_neg he]
theorem apl_M {I K : Mem} {m s r : Nat} (hs : s < 18) (hr : r < 10) (hg : SegP I m s) (hR : RulP I r) (hK : AgM I K) : m_X12_isWriting 196 (nI r) (nI s) K = some (bz (apl I m s r)) := by
  have q1 : inb (nI r) 10 = true := inb_n (by omega) (by omega)
  have q2 : inb (nI s) 20 = true := inb_n (by omega) (by omega)
  have q3 : (nI r).toNatClampNeg = r := nI_clamp (by omega)
  have q4 : (nI s).toNatClampNeg = s := nI_clamp (by omega)
  have hg0 := hg
  obtain ⟨h1, h2, h3, h4, -⟩ := hg
  obtain ⟨r1, r2, -, -, r5⟩ := hR
  unfold m_X12_isWriting
  simp only [q1, q2, q3, q4, gd_t, hK 222 r (by omega), hK 218 s (by omega), hK 226 r (by omega)]
  have c0 : (I 222 r = I 218 s) ↔ I (m + 8 + 3 * s) 5 = I (42 + 2 * r) 1 := by rw [h3, r1]; exact eq_comm
  by_cases c1 : I (m + 8 + 3 * s) 5 = I (42 + 2 * r) 1
  · rw [if_pos (c0.mpr c1)]
    unfold m_X12_isWriting_j27
    rcases r5 with ⟨y1, y2⟩ | ⟨q, y1, y2, y3, y4⟩
    · simp [y2, okz, gd_t, apl, c1, y1, bz]
    · have y5 : ¬ nI q = -1 := by
        intro h
        have := congrArg Int32.toInt h
        rw [nI_toInt (by omega)] at this
        have e : (-1 : Int32).toInt = -1 := rfl
        omega
      have e1 : rT I r = q := by unfold rT; rw [y2, nI_clamp (by omega)]
      obtain ⟨c, d1, d2, d3, d4⟩ := hg0.mc (e := q)
      have hl := hg0.len (e := q)
      obtain ⟨x1, x2, x3⟩ := ix5 (s := s) (e := q) (by omega) (by omega)
      simp only [y3, y5, if_false, hK 215 s (by omega), d2, q2, q4, gd_t, x1, x2, x3, hK 216 (5 * s + q) (by omega), show ¬ (1 : Int32) = 0 by decide]
      by_cases hc : q < c
      · have z1 : ¬ nI c ≤ nI q := nI_ge hc (by omega)
        rw [d3 hc]
        by_cases c3 : sL I m s q = 0
        · have z : nI 0 ≤ 0 := by decide
          simp [z1, c3, z, apl, e1, y2, y5, bz]
        · have z : ¬ nI (sL I m s q) ≤ 0 := nI_nle (by omega) (by omega)
          have c5 := (hg0.let_ (e := q) (x := 0) (by omega))
          have c6 : I (m + 9 + 3 * s) (8 * q) = nI (sQ I m s q 0) := c5.2.2.1
          have c6' : I 217 (8 * (5 * s + q)) = nI (sQ I m s q 0) := c5.2.2.2
          have c7 : 0 < sL I m s q := by omega
          obtain ⟨w1, w2, w3⟩ := ix8 (a := 5 * s + q) (x := 0) (by omega) (by omega)
          have w1' : (8 : Int32) * nI (5 * s + q) = nI (8 * (5 * s + q)) := pk_mul 8 _
          rw [Nat.add_zero] at w2 w3
          simp only [z1, if_false, z, w1', w2, w3, gd_t, q1, q3, hK 217 (8 * (5 * s + q)) (by omega), hK 227 r (by omega), c6', ← y4]
          by_cases c8 : nI (sQ I m s q 0) = I (42 + 2 * r) 5
          · simp [c8, apl, e1, y2, y5, c1, c7, c6, bz]
          · simp [c8, apl, e1, y2, y5, c1, c7, c6, bz]
      · have z1 : nI c ≤ nI q := nI_le (by omega) (by omega)
        simp [z1, apl, e1, y2, y5, d4 hc, bz]
  · rw [if_neg (fun h => c1 (c0.mp h))]
    unfold m_X12_isWriting_j27
    simp [okz, gd_t, apl, c1, bz]
theorem content_M {I K : Mem} {m s e : Nat} {u : List Nat} (hs : s < 18) (he : e < 5) (hg : SegP I m s) (hK : AgM I K) (h : ShM K u) (hu : u.length ≤ 90000) : AppM K (m_X12_putsContent 196 (nI s) (nI e) K) u (cont I m s e) := by
  have hl := hg.len (e := e)
  obtain ⟨x1, x2, x3⟩ := ix5 (s := s) (e := e) (by omega) (by omega)
  have q2 : inb (nI s) 20 = true := inb_n (by omega) (by omega)
  have q4 : (nI s).toNatClampNeg = s := nI_clamp (by omega)
  obtain ⟨c, d1, d2, d3, d4⟩ := hg.mc (e := e)
  have hlp := loop_M (n := sL I m s e) (c := 2) (B := 90000) (F := fun x => rel (sQ I m s e x)) (body := fun a => m_X12_putsContent_b9 196 (nI s) (nI e) (nI (5 * s + e)) a.1 a.2) (K0 := K) (by omega) (fun x _ => rel_len _) (fun x K' u hx hS hF hb => by
    have hA := hK.fr hF
    have hc : e < c := by
      apply Classical.byContradiction
      intro hc
      have := d4 hc
      omega
    have z0 : ¬ nI c ≤ nI e := nI_ge hc (by omega)
    have z1 : ¬ nI (sL I m s e) ≤ nI x := nI_ge hx (by omega)
    have hq := hg.let_ hx
    obtain ⟨w1, w2, w3⟩ := ix8 (a := 5 * s + e) (x := x) (by omega) (by omega)
    have c1 : (nI (sQ I m s e x) = 43) ↔ sQ I m s e x = 43 := nI_eq (b := 43) (by omega) (by omega)
    have c2 : (nI (sQ I m s e x) = 39) ↔ sQ I m s e x = 39 := nI_eq (b := 39) (by omega) (by omega)
    have c3 : (nI (sQ I m s e x) = 63) ↔ sQ I m s e x = 63 := nI_eq (b := 63) (by omega) (by omega)
    have hu2 : u.length < 99000 := by omega
    have two : ∃ K2, m_X12_putsContent_j65 196 (nI s) (nI e) (nI (5 * s + e)) (nI x) (nI (sQ I m s e x)) K' = some (.inl (nI (x + 1), K2)) ∧ ShM K2 (u ++ [63, sQ I m s e x]) ∧ FrM K' K2 := by
      obtain ⟨A, a1, a2, a3⟩ := put_M (c := 63) hS (by omega) (by omega)
      obtain ⟨B, b1, b2, b3⟩ := put_M (c := sQ I m s e x) a2 (by omega) (by simp; omega)
      have a1' : m_X12_puts 196 63 K' = some A := a1
      exact ⟨B, by simp [m_X12_putsContent_j65, a1', m_X12_putsContent_j71, b1, nI_1], by simpa using b2, a3.tr b3⟩
    have one : ∃ K2, m_X12_putsContent_j71 196 (nI s) (nI e) (nI (5 * s + e)) (nI x) (nI (sQ I m s e x)) K' = some (.inl (nI (x + 1), K2)) ∧ ShM K2 (u ++ [sQ I m s e x]) ∧ FrM K' K2 := by
      obtain ⟨B, b1, b2, b3⟩ := put_M (c := sQ I m s e x) hS (by omega) (by omega)
      exact ⟨B, by simp [m_X12_putsContent_j71, b1, nI_1], b2, b3⟩
    have hval : K' 217 (8 * (5 * s + e) + x) = nI (sQ I m s e x) := by rw [hA _ _ (by omega)]; exact hq.2.2.2
    have hbody : m_X12_putsContent_b9 196 (nI s) (nI e) (nI (5 * s + e)) (nI x) K' = if sQ I m s e x = 43 then m_X12_putsContent_j65 196 (nI s) (nI e) (nI (5 * s + e)) (nI x) (nI (sQ I m s e x)) K' else if sQ I m s e x = 39 then m_X12_putsContent_j65 196 (nI s) (nI e) (nI (5 * s + e)) (nI x) (nI (sQ I m s e x)) K' else if sQ I m s e x = 63 then m_X12_putsContent_j65 196 (nI s) (nI e) (nI (5 * s + e)) (nI x) (nI (sQ I m s e x)) K' else m_X12_putsContent_j71 196 (nI s) (nI e) (nI (5 * s + e)) (nI x) (nI (sQ I m s e x)) K' := by
      unfold m_X12_putsContent_b9
      simp only [q2, q4, gd_t, hA 215 s (by omega), d2, z0, if_false, x2, x3, hA 216 (5 * s + e) (by omega), d3 hc, z1, w1, w2, w3, hval, c1, c2, c3]
    show ∃ K2, m_X12_putsContent_b9 196 (nI s) (nI e) (nI (5 * s + e)) (nI x) K' = _ ∧ _ ∧ _
    rw [hbody]
    unfold rel
    by_cases g1 : sQ I m s e x = 43
    · rw [if_pos g1, if_pos (Or.inl g1)]; exact two
    rw [if_neg g1]
    by_cases g2 : sQ I m s e x = 39
    · rw [if_pos g2, if_pos (Or.inr (Or.inl g2))]; exact two
    rw [if_neg g2]
    by_cases g3 : sQ I m s e x = 63
    · rw [if_pos g3, if_pos (Or.inr (Or.inr g3))]; exact two
    rw [if_neg g3, if_neg (by omega)]
    exact one) (fun K' hF => by
    have hA := hK.fr hF
    show m_X12_putsContent_b9 196 (nI s) (nI e) (nI (5 * s + e)) (nI (sL I m s e)) K' = _
    unfold m_X12_putsContent_b9
    by_cases hc : e < c
    · have z0 : ¬ nI c ≤ nI e := nI_ge hc (by omega)
      have z1 : nI (sL I m s e) ≤ nI (sL I m s e) := nI_le (Nat.le_refl _) (by omega)
      simp only [q2, q4, gd_t, hA 215 s (by omega), d2, z0, if_false, x2, x3, hA 216 (5 * s + e) (by omega), d3 hc, z1, if_true]
    · have z0 : nI c ≤ nI e := nI_le (by omega) (by omega)
      simp only [q2, q4, gd_t, hA 215 s (by omega), d2, z0, if_true]) K u h FrM.rf hu
  obtain ⟨K', e1, e2, e3⟩ := hlp
  refine ⟨K', ?_, e2, e3⟩
  have e1' : loopF (fun a => m_X12_putsContent_b9 196 (nI s) (nI e) (nI (5 * s + e)) a.1 a.2) FU ((0 : Int32), K) = some K' := e1
  simp [m_X12_putsContent, x1, e1']
/-- a rule's segment, in the reference's words -/
theorem trn_M {I K : Mem} {m s r : Nat} {u : List Nat} (cc : Int32) (hs : s < 18) (hr : r < 10) (hg : SegP I m s) (hR : RulP I r) (hK : AgM I K) (h : ShM K u) (hu : u.length ≤ 80000) :
    ∃ I7 I10 K', m_X12_puts 196 (I 223 r) K = some I7 ∧ loopF (fun a => m_X12_drafts_b80 196 cc (nI s) (nI r) a.1 a.2) FU ((0 : Int32), I7) = some I10 ∧ m_X12_puts 196 39 I10 = some K' ∧ ShM K' (u ++ trn I m s r) ∧ FrM K K' := by
  obtain ⟨f1, f2, f3, f4⟩ := hR.fc
  obtain ⟨r1, r2, ⟨q0, r3, r4, r5⟩, -, -⟩ := hR
  have hmark : (I (42 + 2 * r) 2).toNatClampNeg = q0 := by rw [r2, r5, nI_clamp (by omega)]
  have w2 : inb (nI r) 10 = true := inb_n (by omega) (by omega)
  have w3 : (nI r).toNatClampNeg = r := nI_clamp (by omega)
  obtain ⟨I7, a1, a2, a3⟩ := put_M (c := q0) h (by omega) (by omega)
  have hA7 := hK.fr a3
  obtain ⟨I10, b1, b2, b3⟩ := loop_M (n := rF I r) (c := 17) (B := 80001) (F := fun x => [43] ++ cont I m s (rE I r x)) (body := fun a => m_X12_drafts_b80 196 cc (nI s) (nI r) a.1 a.2) (K0 := I7) (by omega) (fun x _ => by
      have := cont_len (e := rE I r x) hg
      simp only [List.length_append, List.length_cons, List.length_nil]
      omega) (fun x K' u hx hS hF hb => by
      have hA := hA7.fr hF
      obtain ⟨g1, g2, g3⟩ := f4 x hx
      have z1 : ¬ nI (rF I r) ≤ nI x := nI_ge hx (by omega)
      obtain ⟨A, p1, p2, p3⟩ := put_M (c := 43) hS (by omega) (by omega)
      have hAA := hA.fr p3
      have x1 : (5 : Int32) * nI r + nI x = nI (5 * r + x) := by
        have : (5 : Int32) * nI r = nI (5 * r) := pk_mul 5 r
        rw [this, nI_add]
      have x2 : inb (nI (5 * r + x)) 50 = true := inb_n (by omega) (by omega)
      have x3 : (nI (5 * r + x)).toNatClampNeg = 5 * r + x := nI_clamp (by omega)
      obtain ⟨B, q1, q2, q3⟩ := content_M hs g1 hg hAA p2 (by simp only [List.length_append, List.length_cons, List.length_nil]; omega)
      have p1' : m_X12_puts 196 43 K' = some A := p1
      exact ⟨B, by simp [m_X12_drafts_b80, w2, w3, gd_t, hA 224 r (by omega), f3, z1, p1', x1, x2, x3, hAA 225 (5 * r + x) (by omega), g3, q1, nI_1], by rw [← List.append_assoc]; exact q2, p3.tr q3⟩) (fun K' hF => by
      have hA := hA7.fr hF
      have z1 : nI (rF I r) ≤ nI (rF I r) := nI_le (Nat.le_refl _) (by omega)
      simp [m_X12_drafts_b80, w2, w3, gd_t, hA 224 r (by omega), f3, z1]) I7 _ a2 FrM.rf (by simp; omega)
  have hlen := flat_len (n := rF I r) (c := 17) (F := fun x => [43] ++ cont I m s (rE I r x)) (fun x _ => by
      have := cont_len (e := rE I r x) hg
      simp only [List.length_append, List.length_cons, List.length_nil]
      omega)
  obtain ⟨K', c1, c2, c3⟩ := put_M (c := 39) b2 (by omega) (by simp only [List.length_append, List.length_cons, List.length_nil]; omega)
  refine ⟨I7, I10, K', by rw [r5]; exact a1, b1, c1, ?_, (a3.tr b3).tr c3⟩
  unfold trn
  rw [hmark]
  simpa using c2
theorem segF_len {I : Mem} {m s r : Nat} (hg : SegP I m s) (hR : RulP I r) : (segF I m s r).length ≤ 87 := by
  unfold segF
  split
  · exact trn_len hg hR
  · simp
theorem bodF_len {I : Mem} {m s nr : Nat} (hg : SegP I m s) (hR : ∀ r, r < nr → RulP I r) : (bodF I m nr s).length ≤ nr * 87 := flat_len (fun r hr => segF_len hg (hR r hr))
theorem drafts_M {I K : Mem} {m nb nr k : Nat} (hB : BodP I m nb) (hR : RulsP I nr) (hK : AgM I K) (hk : I 196 47 = nI k) (hk2 : k < 9999) :
    ∃ K', m_X12_drafts 196 K = some (nI (cntL I m nb nr), K') ∧ ShM K' (outL I m nb nr k) ∧ FrM K K' := by
  obtain ⟨b1, b2, b3, b4⟩ := hB
  obtain ⟨r1, r2, r3, r4⟩ := hR
  have hf0 : FrM K (ms K 196 44 0) := fun a b h1 h2 => ms_o (by omega)
  have hs0 : ShM (ms K 196 44 0) [] := ⟨ms_s rfl rfl, fun i hi => absurd hi (by simp)⟩
  obtain ⟨I2, a1, a2, a3⟩ := put_M (c := 72) hs0 (by omega) (by simp)
  obtain ⟨I3, c1, c2, c3⟩ := put_M (c := 43) a2 (by omega) (by simp)
  have hA3 := hK.fr ((hf0.tr a3).tr c3)
  have e3 : I3 196 47 + 1 = nI (k + 1) := by rw [hA3 196 47 (by omega), hk, nI_1]
  obtain ⟨I4, d1, d2, d3⟩ := num_M (n := k + 1) c2 (by omega) (by simp)
  have hnl : ∀ n, (numL n).length ≤ 4 := fun n => by unfold numL; split <;> (try split) <;> (try split) <;> simp
  have hn4 := hnl (k + 1)
  obtain ⟨I5, f1, f2, f3⟩ := put_M (c := 39) d2 (by omega) (by simp only [List.length_append, List.length_cons, List.length_nil]; omega)
  have hF5 := (((hf0.tr a3).tr c3).tr d3).tr f3
  have hA5 := hK.fr hF5
  obtain ⟨I6, g1, g2, g3⟩ := loop2_M (n := nb) (c := 870) (B := 10) (F := bodF I m nr) (N := bodN I m nr) (body := fun a => m_X12_drafts_b37 196 a.1 a.2.1 a.2.2) (K0 := I5) (by omega) (fun x hx => by
      have := bodF_len (nr := nr) (b4 x hx) r4
      omega) (fun c x K' u hx hS hF hb => by
      have hA := hA5.fr hF
      have z1 : ¬ nI nb ≤ nI x := nI_ge hx (by omega)
      obtain ⟨L, p1, p2, p3⟩ := loop2_M (n := nr) (c := 87) (B := u.length) (F := segF I m x) (N := segN I m x) (body := fun a => m_X12_drafts_b47 196 (nI x) a.1 a.2.1 a.2.2) (K0 := K') (by omega) (fun r hr => segF_len (b4 x hx) (r4 r hr)) (fun c r K2 u2 hr hS2 hF2 hb2 => by
        have hA2 := hA.fr hF2
        have w1 : ¬ nI nr ≤ nI r := nI_ge hr (by omega)
        have w2 : inb (nI r) 10 = true := inb_n (by omega) (by omega)
        have w3 : (nI r).toNatClampNeg = r := nI_clamp (by omega)
        have w5 := apl_M (K := K2) (show x < 18 by omega) (show r < 10 by omega) (b4 x hx) (r4 r hr) hA2
        cases hap : apl I m x r with
        | false =>
          rw [hap] at w5
          exact ⟨K2, by simp [m_X12_drafts_b47, hA2 196 42 (by omega), r3, w1, w5, bz, m_X12_drafts_j125, segN, hap, nI_1], by simpa [segF, hap] using hS2, FrM.rf⟩
        | true =>
          rw [hap] at w5
          obtain ⟨I7, I10, K3, t1, t2, t3, t4, t5⟩ := trn_M (nI (c + 1)) (show x < 18 by omega) (show r < 10 by omega) (b4 x hx) (r4 r hr) hA2 hS2 (by omega)
          exact ⟨K3, by simp [m_X12_drafts_b47, hA2 196 42 (by omega), r3, w1, w5, bz, w2, w3, gd_t, hA2 223 r (by omega), t1, t2, t3, m_X12_drafts_j125, segN, hap, nI_1], by simpa [segF, hap] using t4, t5⟩) (fun c K2 hF2 => by
        have hA2 := hA.fr hF2
        have w1 : nI nr ≤ nI nr := nI_le (Nat.le_refl _) (by omega)
        simp [m_X12_drafts_b47, hA2 196 42 (by omega), r3, w1]) c K' u hS FrM.rf (Nat.le_refl _)
      have p1' : loopF (fun a => m_X12_drafts_b47 196 (nI x) a.1 a.2.1 a.2.2) FU (nI c, (0 : Int32), K') = some (nI (c + ((List.range nr).map (segN I m x)).sum), L) := p1
      exact ⟨L, by simp [m_X12_drafts_b37, hA 196 32 (by omega), b3, z1, p1', nI_1, bodN], p2, p3⟩) (fun c K' hF => by
      have hA := hA5.fr hF
      have w1 : nI nb ≤ nI nb := nI_le (Nat.le_refl _) (by omega)
      simp [m_X12_drafts_b37, hA 196 32 (by omega), b3, w1]) 2 I5 _ f2 FrM.rf (by simp only [List.length_append, List.length_cons, List.length_nil]; omega)
  have hF6 := hF5.tr g3
  have hbl := flat_len (n := nb) (c := 870) (F := bodF I m nr) (fun x hx => by
      have := bodF_len (nr := nr) (b4 x hx) r4
      omega)
  have hcl := cnt_le (I := I) (m := m) (nb := nb) (nr := nr) b1 r1
  obtain ⟨I14, h1, h2, h3⟩ := put_M (c := 84) g2 (by omega) (by simp only [List.length_append, List.length_cons, List.length_nil]; omega)
  obtain ⟨I15, i1, i2, i3⟩ := put_M (c := 43) h2 (by omega) (by simp only [List.length_append, List.length_cons, List.length_nil]; omega)
  have hnc := hnl (cntL I m nb nr)
  obtain ⟨I16, j1, j2, j3⟩ := num_M (n := cntL I m nb nr) i2 (by omega) (by simp only [List.length_append, List.length_cons, List.length_nil]; omega)
  obtain ⟨I17, k1, k2, k3⟩ := put_M (c := 43) j2 (by omega) (by simp only [List.length_append, List.length_cons, List.length_nil]; omega)
  have hF17 := (((hF6.tr h3).tr i3).tr j3).tr k3
  have e17 : I17 196 47 + 1 = nI (k + 1) := by rw [(hK.fr hF17) 196 47 (by omega), hk, nI_1]
  obtain ⟨I18, l1, l2, l3⟩ := num_M (n := k + 1) k2 (by omega) (by simp only [List.length_append, List.length_cons, List.length_nil]; omega)
  obtain ⟨I19, m1, m2, m3⟩ := put_M (c := 39) l2 (by omega) (by simp only [List.length_append, List.length_cons, List.length_nil]; omega)
  have a1' : m_X12_puts 196 72 (ms K 196 44 0) = some I2 := a1
  have c1' : m_X12_puts 196 43 I2 = some I3 := c1
  have f1' : m_X12_puts 196 39 I4 = some I5 := f1
  have h1' : m_X12_puts 196 84 I6 = some I14 := h1
  have i1' : m_X12_puts 196 43 I14 = some I15 := i1
  have k1' : m_X12_puts 196 43 I16 = some I17 := k1
  have m1' : m_X12_puts 196 39 I18 = some I19 := m1
  have g1' : loopF (fun a => m_X12_drafts_b37 196 a.1 a.2.1 a.2.2) FU ((2 : Int32), (0 : Int32), I5) = some (nI (cntL I m nb nr), I6) := g1
  refine ⟨I19, ?_, ?_, (hF17.tr l3).tr m3⟩
  · simp [m_X12_drafts, bnd, a1', c1', e3, d1, f1', g1', h1', i1', j1, k1', e17, l1, m1']
  · have : outL I m nb nr k = _ := rfl
    simp only [outL]
    simpa [cntL] using m2
