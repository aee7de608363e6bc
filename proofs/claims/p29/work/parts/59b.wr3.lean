theorem FrC.low {d : Nat} {I J : Mem} (h : FrC d I J) (hd : 192 ≤ d) : ∀ a b, a < 192 → J a b = I a b := fun a b ha => h a b (by omega) (by omega)
theorem content_C {I J : Mem} {d m s e k x3 : Nat} {u : List Nat} (hd : 192 ≤ d) (hm : m ≤ 127) (hs : s < 18) (he : e < 5) (hg : SegP I m s) (hJ : FrC d I J) (h : ShC J d u) :
    AppC d J (loopF (fun a => m_X6_translate_b35 k (m + 8 + 3 * s) d (nI x3) (nI e) a.1 a.2) FU ((0 : Int32), J)) u (cont I m s e) := by
  have hl := hg.len (e := e)
  refine loop_C (n := sL I m s e) (F := fun x => rel (sQ I m s e x)) (J0 := I) (by omega) (fun x J u hx hS hF => ?_) (fun J hF => ?_) J u h hJ
  · have hlow := hF.low hd
    have c1 := hg.cnt he (J := J) (fun a b _ _ => hlow a b (by omega))
    have c2 := hg.ltr he hx (J := J) (fun a b _ _ => hlow a b (by omega))
    have hq := hg.let_ hx
    obtain ⟨J', e1, e2, e3⟩ := released_C (q := sQ I m s e x) hS (by omega)
    have z1 : ¬ nI (sL I m s e) ≤ nI x := nI_ge hx (by omega)
    exact ⟨J', by simp [m_X6_translate_b35, c1, z1, c2, e1, nI_1], e2, e3⟩
  · have hlow := hF.low hd
    have c1 := hg.cnt he (J := J) (fun a b _ _ => hlow a b (by omega))
    have z1 : nI (sL I m s e) ≤ nI (sL I m s e) := nI_le (Nat.le_refl _) (by omega)
    simp [m_X6_translate_b35, c1, z1]
theorem translate_C {I J : Mem} {d m s r : Nat} {u : List Nat} (hd : 192 ≤ d) (hm : m ≤ 127) (hs : s < 18) (hr : r < 10) (hg : SegP I m s) (hR : RulP I r) (hJ : FrC d I J) (h : ShC J d u) : AppC d J (m_X6_translate (42 + 2 * r) (m + 8 + 3 * s) d J) u (trn I m s r) := by
  obtain ⟨f1, f2, f3, f4⟩ := hR.fc
  obtain ⟨r1, r2, ⟨q0, r3, r4, r5⟩, -, -⟩ := hR
  have hmark : I (42 + 2 * r) 2 = nI q0 := by rw [r2, r5]
  have hlow := hJ.low hd
  unfold m_X6_translate trn
  rw [hlow (42 + 2 * r) 2 (by omega), hmark, nI_clamp (by omega)]
  refine AppC.bind (put_C h (by omega)) fun J1 hs1 hf1 => ?_
  have hJ1 : FrC d I J1 := hJ.tr hf1
  refine AppC.bind ?_ fun J2 hs2 hf2 => ?_
  · refine loop_C (n := rF I r) (F := fun x => [43] ++ cont I m s (rE I r x)) (J0 := I) (by omega) (fun x J u hx hS hF => ?_) (fun J hF => ?_) J1 _ hs1 hJ1
    · have hlow := hF.low hd
      obtain ⟨g1, g2, g3⟩ := f4 x hx
      have z1 : ¬ nI (rF I r) ≤ nI x := nI_ge hx (by omega)
      have z2 : inb (nI x) 5 = true := inb_n (by omega) (by omega)
      have z3 : (nI x).toNatClampNeg = x := nI_clamp (by omega)
      have hb := AppC.bind (g := fun I2 => loopF (fun a => m_X6_translate_b35 (42 + 2 * r) (m + 8 + 3 * s) d (nI x) (nI (rE I r x)) a.1 a.2) FU ((0 : Int32), I2)) (put_C (c := 43) hS (by omega)) (fun J' hs' hf' => content_C hd hm hs g1 hg (hF.tr hf') hs')
      obtain ⟨J', e1, e2, e3⟩ := hb
      refine ⟨J', ?_, e2, e3⟩
      have e1' : (Option.bind (m_X10_put d 43 J) fun I2 => loopF (fun a => m_X6_translate_b35 (42 + 2 * r) (m + 8 + 3 * s) d (nI x) (nI (rE I r x)) a.1 a.2) FU ((0 : Int32), I2)) = some J' := e1
      obtain ⟨I2, p1, p2⟩ := Option.bind_eq_some_iff.mp e1'
      have hk : J (42 + 2 * r + 1) x = nI (rE I r x) := by rw [hlow _ _ (by omega), show 42 + 2 * r + 1 = 43 + 2 * r by omega, g2]
      simp [m_X6_translate_b10, hlow (42 + 2 * r) 3 (by omega), f2, z1, z2, z3, gd_t, p1, hk, p2, nI_1]
    · have hlow := hF.low hd
      have z1 : nI (rF I r) ≤ nI (rF I r) := nI_le (Nat.le_refl _) (by omega)
      simp [m_X6_translate_b10, hlow (42 + 2 * r) 3 (by omega), f2, z1]
  · have := AppC.bind (g := fun I2 => some I2) (L2 := []) (put_C (c := 39) hs2 (by omega)) (fun J3 h3 _ => AppC.nil h3)
    exact this
theorem apl_C {I J : Mem} {m s r : Nat} (hs : s < 18) (hm : m ≤ 127) (hr : r < 10) (hg : SegP I m s) (hR : RulP I r) (hlow : ∀ a b, a < 192 → J a b = I a b) : m_X6_appliesTo (42 + 2 * r) (m + 8 + 3 * s) J = some (bz (apl I m s r)) := by
  obtain ⟨r1, r2, -, -, r5⟩ := hR
  unfold m_X6_appliesTo apl
  simp only [m_X9_itemNumber, hlow (m + 8 + 3 * s) 5 (by omega), hlow (42 + 2 * r) 1 (by omega), hlow (42 + 2 * r) 4 (by omega), Option.bind_some]
  by_cases c1 : I (m + 8 + 3 * s) 5 = I (42 + 2 * r) 1
  · rw [if_pos c1]
    rcases r5 with ⟨y1, y2⟩ | ⟨q, y1, y2, y3, y4⟩
    · simp [y1, c1, m_X6_appliesTo_j27, bz]
    · have y5 : ¬ nI q = -1 := by
        intro h
        have := congrArg Int32.toInt h
        rw [nI_toInt (by omega)] at this
        have e : (-1 : Int32).toInt = -1 := rfl
        omega
      have e1 : rT I r = q := by unfold rT; rw [y2, nI_clamp (by omega)]
      have c2 := hg.cnt (e := q) y1 (J := J) (fun a b _ _ => hlow a b (by omega))
      have hl := hg.len (e := q)
      rw [e1, y2, if_neg y5]
      simp only [m_X6_holdsFor, hlow (42 + 2 * r) 4 (by omega), hlow (42 + 2 * r) 5 (by omega), y2, c2, Option.bind_some]
      by_cases c3 : sL I m s q = 0
      · have z : nI 0 ≤ 0 := by decide
        rw [c3]
        simp [z, c1, y5, bz]
      · have z : ¬ nI (sL I m s q) ≤ 0 := nI_nle (by omega) (by omega)
        have c4 := hg.ltr (e := q) (x := 0) y1 (by omega) (J := J) (fun a b _ _ => hlow a b (by omega))
        have c5 := (hg.let_ (e := q) (x := 0) (by omega)).2.2.1
        have c4' : m_X9_letterIn (m + 8 + 3 * s) (nI q) 0 J = some (nI (sQ I m s q 0)) := c4
        have c6 : I (m + 9 + 3 * s) (8 * q) = nI (sQ I m s q 0) := c5
        have c7 : 0 < sL I m s q := by omega
        simp only [z, if_false, c4', Option.bind_some, c6]
        by_cases c8 : nI (sQ I m s q 0) = I (42 + 2 * r) 5
        · simp [c8, c7, c1, y5, bz, m_X6_appliesTo_j27]
        · simp [c8, c7, c1, y5, bz]
  · rw [if_neg c1]
    simp [c1, bz]
def segF (I : Mem) (m s r : Nat) : List Nat := if apl I m s r then trn I m s r else []
def segN (I : Mem) (m s r : Nat) : Nat := if apl I m s r then 1 else 0
def bodF (I : Mem) (m nr s : Nat) : List Nat := (List.range nr).flatMap (segF I m s)
def bodN (I : Mem) (m nr s : Nat) : Nat := ((List.range nr).map (segN I m s)).sum
theorem body_C {I J : Mem} {d m d' nb nr : Nat} {u : List Nat} (hd : 192 ≤ d) (hm : (m = 62 ∧ d' = 127) ∨ (m = 127 ∧ d' = 62)) (hB : BodP I m nb) (hR : RulsP I nr) (hJ : FrC d I J) (h : ShC J d u) :
    ∃ J', m_X7_putBody 38 m d J = some (nI ((List.range nb).map (bodN I m nr)).sum, J') ∧ ShC J' d (u ++ (List.range nb).flatMap (bodF I m nr)) ∧ FrC d J J' := by
  obtain ⟨b1, b2, b3, b4⟩ := hB
  obtain ⟨r1, r2, r3, r4⟩ := hR
  obtain ⟨J', e1, e2, e3⟩ := loop2_C (n := nb) (F := bodF I m nr) (N := bodN I m nr) (body := fun a => m_X7_putBody_b5 38 m d a.1 a.2.1 a.2.2) (J0 := I) (by omega) (fun c x J u hx hS hF => by
    have hlow := hF.low hd
    have hc := bC (I := J) (m := m) b1 (by rw [hlow _ _ (by omega)]; exact b2)
    have ha := bA (I := J) hm b1 (by rw [hlow _ _ (by omega)]; exact b2) hx
    have io := io_seg hm (show x < 18 by omega)
    have z1 : ¬ nI nb ≤ nI x := nI_ge hx (by omega)
    obtain ⟨J2, d1, d2, d3⟩ := loop2_C (n := nr) (F := segF I m x) (N := segN I m x) (body := fun a => m_X7_putBody_b25 38 m d (nI x) (m + 8 + 3 * x) a.1 a.2.1 a.2.2) (J0 := I) (by omega) (fun c r J u hr hS hF => by
      have hlow := hF.low hd
      have w1 : ¬ nI nr ≤ nI r := nI_ge hr (by omega)
      have w2 : inb (nI r) 10 = true := inb_n (by omega) (by omega)
      have w3 : (nI r).toNatClampNeg = r := nI_clamp (by omega)
      have w4 : 38 + 1 + (3 + 2 * r) = 42 + 2 * r := by omega
      have w5 := apl_C (J := J) (show x < 18 by omega) (by omega) (by omega) (b4 x hx) (r4 r hr) hlow
      cases hap : apl I m x r with
      | false =>
        rw [hap] at w5
        refine ⟨J, ?_, by simpa [segF, hap] using hS, FrC.rf⟩
        simp only [m_X7_putBody_b25, hlow 38 2 (by omega), r2, w1, if_false, w2, gd_t, w3, w4, w5, Option.bind_some, bz]
        simp [m_X7_putBody_j65, segN, hap, nI_1]
      | true =>
        rw [hap] at w5
        obtain ⟨J3, g1, g2, g3⟩ := translate_C hd (by omega) (show x < 18 by omega) (show r < 10 by omega) (b4 x hx) (r4 r hr) hF hS
        refine ⟨J3, ?_, by simpa [segF, hap] using g2, g3⟩
        simp only [m_X7_putBody_b25, hlow 38 2 (by omega), r2, w1, if_false, w2, gd_t, w3, w4, w5, Option.bind_some, bz, g1]
        simp [m_X7_putBody_j65, segN, hap, nI_1]) (fun c J hF => by
      have hlow := hF.low hd
      have w1 : nI nr ≤ nI nr := nI_le (Nat.le_refl _) (by omega)
      simp [m_X7_putBody_b25, hlow 38 2 (by omega), r2, w1]) c J u hS hF
    refine ⟨J2, ?_, d2, d3⟩
    have d1' : loopF (fun a => m_X7_putBody_b25 38 m d (nI x) (m + 8 + 3 * x) a.1 a.2.1 a.2.2) FU (nI c, (0 : Int32), J) = some (nI (c + ((List.range nr).map (segN I m x)).sum), J2) := d1
    simp [m_X7_putBody_b5, hc, z1, ha, io, gd_t, d1', nI_1, bodN]) (fun c J hF => by
    have hlow := hF.low hd
    have hc := bC (I := J) (m := m) b1 (by rw [hlow _ _ (by omega)]; exact b2)
    have w1 : nI nb ≤ nI nb := nI_le (Nat.le_refl _) (by omega)
    simp [m_X7_putBody_b5, hc, w1]) 0 J u h hJ
  refine ⟨J', ?_, e2, e3⟩
  have e1' : loopF (fun a => m_X7_putBody_b5 38 m d a.1 a.2.1 a.2.2) FU ((0 : Int32), (0 : Int32), J) = some (nI (0 + ((List.range nb).map (bodN I m nr)).sum), J') := e1
  simp [m_X7_putBody, e1']
def outL (I : Mem) (m nb nr k : Nat) : List Nat :=
  [72] ++ ([43] ++ (numL (k + 1) ++ ([39] ++ ((List.range nb).flatMap (bodF I m nr) ++ ([84] ++ ([43] ++ (numL (2 + ((List.range nb).map (bodN I m nr)).sum) ++ ([43] ++ (numL (k + 1) ++ [39])))))))))
def cntL (I : Mem) (m nb nr : Nat) : Nat := 2 + ((List.range nb).map (bodN I m nr)).sum
theorem segN_sum {I : Mem} {m s nr : Nat} : bodN I m nr s ≤ nr := by
  unfold bodN
  induction nr with
  | zero => simp
  | succ n ih =>
    rw [List.range_succ, List.map_append, List.sum_append]
    have : segN I m s n ≤ 1 := by unfold segN; split <;> omega
    simp
    omega
theorem cnt_le {I : Mem} {m nb nr : Nat} (h1 : nb ≤ 18) (h2 : nr ≤ 10) : cntL I m nb nr ≤ 182 := by
  have : ∀ n, n ≤ 18 → ((List.range n).map (bodN I m nr)).sum ≤ n * 10 := by
    intro n
    induction n with
    | zero => simp
    | succ n ih =>
      intro hn
      rw [List.range_succ, List.map_append, List.sum_append]
      have := ih (by omega)
      have := segN_sum (I := I) (m := m) (s := n) (nr := nr)
      simp
      omega
  have := this nb h1
  unfold cntL
  omega
theorem trans_C {I : Mem} {d m d' nb nr k : Nat} (hd : d = 192 ∨ d = 194) (hm : (m = 62 ∧ d' = 127) ∨ (m = 127 ∧ d' = 62)) (hB : BodP I m nb) (hR : RulsP I nr) (hk : k < 9999) :
    ∃ J', m_X7_translate 38 m (nI (k + 1)) d I = some (bz (decide (cntL I m nb nr ≤ 20 ∧ (outL I m nb nr k).length ≤ 300)), J') ∧ ShC J' d (outL I m nb nr k) ∧ FrC d I J' := by
  have hw : m_X10_wipe d I = some (ms (ms I d 1 0) d 2 0) := by simp [m_X10_wipe, bnd]
  have hf0 : FrC d I (ms (ms I d 1 0) d 2 0) := fun a b h1 h2 => by rw [ms_o (by omega), ms_o (by omega)]
  have hs0 : ShC (ms (ms I d 1 0) d 2 0) d [] := ⟨by rw [ms_o (by omega), ms_s rfl rfl]; rfl, by rw [ms_s rfl rfl]; rfl, fun i hi => absurd hi (by simp)⟩
  have hh : AppC d (ms (ms I d 1 0) d 2 0) (m_X7_putHeader (nI (k + 1)) d (ms (ms I d 1 0) d 2 0)) [] ([72] ++ ([43] ++ (numL (k + 1) ++ ([39] ++ [])))) := by
    unfold m_X7_putHeader
    refine AppC.bind (put_C (c := 72) hs0 (by omega)) fun J1 h1 _ => ?_
    refine AppC.bind (put_C (c := 43) h1 (by omega)) fun J2 h2 _ => ?_
    refine AppC.bind (num_C h2 (by omega) (by omega)) fun J3 h3 _ => ?_
    exact AppC.bind (put_C (c := 39) h3 (by omega)) fun J4 h4 _ => AppC.nil h4
  obtain ⟨J1, a1, a2, a3⟩ := hh
  obtain ⟨J2, b1, b2, b3⟩ := body_C (d := d) (by omega) hm hB hR (hf0.tr a3) a2
  have hcl := cnt_le (I := I) (m := m) hB.1 hR.1
  have ht : AppC d J2 (m_X7_putTrailer (nI (cntL I m nb nr)) (nI (k + 1)) d J2) ([] ++ ([72] ++ ([43] ++ (numL (k + 1) ++ ([39] ++ [])))) ++ (List.range nb).flatMap (bodF I m nr)) ([84] ++ ([43] ++ (numL (cntL I m nb nr) ++ ([43] ++ (numL (k + 1) ++ ([39] ++ [])))))) := by
    unfold m_X7_putTrailer
    refine AppC.bind (put_C (c := 84) b2 (by omega)) fun J1 h1 _ => ?_
    refine AppC.bind (put_C (c := 43) h1 (by omega)) fun J2 h2 _ => ?_
    refine AppC.bind (num_C h2 (by unfold cntL; omega) (by omega)) fun J3 h3 _ => ?_
    refine AppC.bind (put_C (c := 43) h3 (by omega)) fun J4 h4 _ => ?_
    refine AppC.bind (num_C h4 (by omega) (by omega)) fun J5 h5 _ => ?_
    exact AppC.bind (put_C (c := 39) h5 (by omega)) fun J6 h6 _ => AppC.nil h6
  obtain ⟨J3, c1, c2, c3⟩ := ht
  have hlist : ([] ++ ([72] ++ ([43] ++ (numL (k + 1) ++ ([39] ++ [])))) ++ (List.range nb).flatMap (bodF I m nr)) ++ ([84] ++ ([43] ++ (numL (cntL I m nb nr) ++ ([43] ++ (numL (k + 1) ++ ([39] ++ [])))))) = outL I m nb nr k := by
    simp [outL, cntL]
  rw [hlist] at c2
  refine ⟨J3, ?_, c2, ((hf0.tr a3).tr b3).tr c3⟩
  have hsum : (2 : Int32) + nI ((List.range nb).map (bodN I m nr)).sum = nI (cntL I m nb nr) := nI_add 2 _
  have ho : J3 d 2 = bz (decide (300 < (outL I m nb nr k).length)) := c2.2.1
  simp only [m_X7_translate, hw, Option.bind_some, a1, b1, hsum, c1]
  by_cases g1 : cntL I m nb nr ≤ 20
  · have z : ¬ (20 : Int32) < nI (cntL I m nb nr) := nI_nlt (a := 20) g1 (by omega)
    by_cases g2 : (outL I m nb nr k).length ≤ 300
    · have ho' : J3 d 2 = 0 := by rw [ho]; simp [bz]; omega
      simp [z, m_X10_isOverfull, ho', okz, gd_t, g1, g2, bz]
    · have ho' : J3 d 2 = 1 := by rw [ho]; simp [bz]; omega
      simp [z, m_X10_isOverfull, ho', okz, gd_t, g2, bz]
  · have z : (20 : Int32) < nI (cntL I m nb nr) := nI_lt (a := 20) (by omega) (by omega)
    simp [z, g1, bz]
