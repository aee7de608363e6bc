/-! reading agrees -/
theorem entry_of {T : Nat → Nat → Nat} {ni ne i : Nat} (hS : SF T ni ne) (hi : i < ni) : ∃ e, e < ne ∧ T 4 e ≤ i ∧ i < T 5 e := by
  have go : ∀ k, k < ne → i < T 5 k → ∃ e, e < ne ∧ T 4 e ≤ i ∧ i < T 5 e := by
    intro k
    induction k with
    | zero =>
      intro h h2
      have := (hS.2.2.2.2.1 h).1
      exact ⟨0, h, by omega, h2⟩
    | succ k ih =>
      intro h h2
      by_cases z : T 4 (k + 1) ≤ i
      · exact ⟨k + 1, h, z, h2⟩
      · have := (hS.2.2.2.1 k (by omega)).2.2.2.2.2.2.2 h
        exact ih (by omega) (by omega)
  have hne : 0 < ne := Nat.pos_of_ne_zero fun z => by have := hS.2.2.2.2.2 z; omega
  exact go (ne - 1) (by omega) (by have := (hS.2.2.2.2.1 hne).2; omega)
theorem MR.of {I : Mem} {T : Nat → Nat → Nat} {ni ne : Nat} (hM : SchM I T ni ne false) (hS : SF T ni ne) : MR I T ni ne (fun i => (I 200 i).toNatClampNeg) := by
  have k1 := hS.2.1
  have h2 : ∀ e i, e < ne → T 4 e ≤ i → i < T 5 e → (I 200 i).toNatClampNeg = e ∧ I 200 i = nI e := fun e i he a b => by
    have := (hM.2.2.2.2 e he).2.2.2.2.2 i a b
    exact ⟨by rw [this]; exact nI_clamp (by omega), this⟩
  refine ⟨hM, hS, fun e i he a b => (h2 e i he a b).1, fun i hi => ?_⟩
  obtain ⟨e, he, a, b⟩ := entry_of hS hi
  obtain ⟨c1, c2⟩ := h2 e i he a b
  show I 200 i = nI (I 200 i).toNatClampNeg ∧ (I 200 i).toNatClampNeg < ne ∧ T 4 (I 200 i).toNatClampNeg ≤ i ∧ i < T 5 (I 200 i).toNatClampNeg
  rw [c1]
  exact ⟨c2, he, a, b⟩
/-- the segment s of the accepted message -/
theorem SegP.of {I J : Mem} {d s : Nat} {S : List Sg} {w : Nat → Nat} (hd : d = 62 ∨ d = 127) (hK : SgK (S.getD (s + 1) zS)) (hC : SgD J (d + 5 + 3 * (s + 1)) (S.getD (s + 1) zS)) (hA : J (d + 8 + 3 * s) 5 = nI (w (s + 1) / 100) ∧ J (d + 8 + 3 * s) 6 = nI (w (s + 1) / 10 % 10))
    (hM : AcM I s (S.getD (s + 1) zS)) (hP : I 218 s = nI (w (s + 1) / 100) ∧ I 219 s = nI (w (s + 1) / 10 % 10)) (hf : ∀ a b, d + 5 ≤ a ∧ a < d + 65 → I a b = J a b) (hs : s < 18) : SegP I d s := by
  obtain ⟨m1, m2, m3⟩ := hM
  obtain ⟨c1, c2, c3⟩ := hC
  have ht := okt_eq hK.2.1
  rw [show d + 5 + 3 * (s + 1) = d + 8 + 3 * s by omega] at c2 c3
  refine ⟨by rw [hf _ _ (by omega), c2, m1, ht.1], ?_, by rw [hf _ _ (by omega), hA.1, hP.1], by rw [hf _ _ (by omega), hA.2, hP.2], (S.getD (s + 1) zS).2.2.length, hK.1.1, by rw [hf _ _ (by omega), c3.1], m2, fun e he => ?_⟩
  · rw [m1]
    exact okc_n' (by omega)
  · obtain ⟨k1, k2⟩ := c3.2 e he
    obtain ⟨n1, n2⟩ := m3 e he
    have hll := hK.len he
    refine ⟨((S.getD (s + 1) zS).2.2.getD e []).length, hll, ?_, n1, fun x hx => ?_⟩
    · rw [hf _ _ (by omega), show d + 10 + 3 * s = d + 8 + 3 * s + 2 by omega, k1]
    · have lb := (hK.1.el he).at hx
      refine ⟨_, lb.1, lb.2, ?_, n2 x hx⟩
      rw [hf _ _ (by omega), show d + 9 + 3 * s = d + 8 + 3 * s + 1 by omega, k2 x hx (by omega)]
theorem FltP.of {I : Mem} {F : List (Nat × Nat)} (h1 : FlC I F) (h2 : FlM I F) (hl : F.length ≤ 141) : Flt I :=
  ⟨F.length, hl, h1.1, h2.1, fun i hi => ⟨by rw [(h1.2 i hi).1, (h2.2 i hi).1], by rw [(h1.2 i hi).2, (h2.2 i hi).2]⟩⟩
theorem op_read {I : Mem} (hI : Inv I) : OKc (caseA (wrE hv_read (m_X11_read 0 I)) (fun I => m_X12_read 196 I)) := by
  obtain ⟨T, ni, ne, op, hC, hM, hF⟩ := hI.1
  have h3 := hC.2.2.1
  have k3 := hM.2.2.1
  cases op with
  | true =>
    rw [bz_t] at h3 k3
    have n10 : ¬ (1 : Int32) = 0 := by decide
    refine opA_ex (c := 1) (k := 1) (I1 := I) (I2 := ms I 196 48 1) (v := 0) ?_ rfl (by decide) ?_ (ms_s rfl rfl) hI.thr
    · have ok : okz 1 = true := by decide
      simp only [m_X11_read, Nat.reduceAdd, m_X8_isLoopOpen, h3, ok, gd_t, Option.bind_some, n10, if_false]
    · simp only [m_X12_read, k3, n10, if_false, m_X12_read_j13, m_X12_isFine, bnd, Option.bind_some, if_true]
  | false =>
    rw [bz_f] at h3 k3
    have hS := SF.of hF
    obtain ⟨tx, tl, hT⟩ := hI.2.2.1
    obtain ⟨hc, c1, c2, c3⟩ := hI.2.2.2.2.1
    obtain ⟨m, d, hm, a1, a2, ha, a3, a4, a5⟩ := hI.2.2.2.2.2.1
    have hd : d = 62 ∨ d = 127 := by omega
    have hTC : TxC I tx tl := ⟨hT.1, hT.2.1, fun i hi => ⟨(hT.2.2.2 i hi).1, (hT.2.2.2 i hi).2.1, (hT.2.2.2 i hi).2.2.1⟩⟩
    have hTM : TxM I tx tl := ⟨hT.1, hT.2.2.1, fun i hi => ⟨(hT.2.2.2 i hi).1, (hT.2.2.2 i hi).2.1, (hT.2.2.2 i hi).2.2.2⟩⟩
    have hR := MR.of hM hS
    obtain ⟨eo, heo⟩ : ∃ eo : Nat → Nat, eo = fun i => (I 200 i).toNatClampNeg := ⟨_, rfl⟩
    rw [← heo] at hR
    obtain ⟨S, hSS⟩ : ∃ S, S = spS tx tl 20 0 := ⟨_, rfl⟩
    obtain ⟨F0, hFF⟩ : ∃ F0, F0 = spF tx tl 20 0 := ⟨_, rfl⟩
    have hl : S.length ≤ 20 := by rw [hSS]; exact spS_len 20 0
    obtain ⟨r, J, F, p1, p2, p3, p4, p5, p6⟩ := readC (hc := hc) (lc := I 0 9) hTC hC hS hR.2.2.1 hI.2.1 hd hSS hFF
    have w1 : (nI d).toNatClampNeg = d := nI_clamp (by omega)
    have w1' : (nI m).toNatClampNeg = m := nI_clamp (by omega)
    have io : iO d 4 = true := io_msg (m := d) (d := m) (by omega)
    have io' : iO m 4 = true := io_msg hm
    have ok0 : okz 0 = true := by decide
    rw [← c1] at p1
    -- the reference's side over a memory that differs from I below 196 only
    have ref : ∀ X : Mem, (∀ a b, 196 ≤ a → a ≠ 230 → X a b = I a b) → ∃ K' F', m_X12_read 196 X = some (nI F'.length, K') ∧ F' = F ∧ FlM K' F ∧ K' 196 48 = 0 ∧ K' 196 13 = 0 ∧ ((F ≠ [] ∧ FrN X K') ∨
      (F = [] ∧ FrO X K' ∧ K' 196 23 = 1 ∧ K' 196 24 = 1 ∧ K' 196 25 = nmE (hdS S) 0 ∧ K' 196 32 = nI (S.length - 2) ∧ (∀ s, s < S.length - 2 → AcM K' s (S.getD (s + 1) zS)) ∧ ∀ s, s < S.length - 2 → K' 218 s = nI (pth T (gS S) (S.length - 2) ni ne eo (s + 1) / 100) ∧ K' 219 s = nI (pth T (gS S) (S.length - 2) ni ne eo (s + 1) / 10 % 10))) := fun X hX => by
      have hRX : MR X T ni ne eo := by
        obtain ⟨r1, r2, r3, r4⟩ := hR
        refine ⟨r1.congr2 fun a b q q2 => hX a b q (by omega), r2, r3, fun i hi => ?_⟩
        rw [hX _ _ (by omega) (by omega)]
        exact r4 i hi
      obtain ⟨K', F', q1, q2, q3, q4, q5, q6⟩ := readM (hc := hc) (lc := I 0 9) (hTM.fr (J' := X) fun a b q => hX a b (by omega) (by omega)) hRX (by rw [hX _ _ (by omega) (by omega), c2]) (fun h => by rw [hX _ _ (by omega) (by omega), c3 h]) hSS hFF
      have e := p2.one q2
      subst e
      exact ⟨K', F, q1, rfl, q3, q4, q5, q6⟩
    rcases p6 with ⟨f1, f2⟩ | ⟨f1, f2, f3, f4, f5, f6⟩
    · -- faults: the accepted message stays
      subst f2
      obtain ⟨J2, hJ2⟩ : ∃ J2, J2 = ms (ms J 27 1 0) 27 2 0 := ⟨_, rfl⟩
      have jF : ∀ a b, a ≠ 27 → J2 a b = J a b := fun a b q => by rw [hJ2, ms_o (by omega), ms_o (by omega)]
      have cl : m_X11_read 0 I = some (.inl (nI F.length), J2) := by
        have cn : ms (ms J 27 1 0) 27 2 0 29 2 = nI F.length := by rw [ms_o (by omega), ms_o (by omega), p3.1]
        simp only [m_X11_read, Nat.reduceAdd, m_X8_isLoopOpen, h3, ok0, gd_t, Option.bind_some, if_true, a2, w1, io, p1, m_X11_read_j50, m_X10_wipe, bnd, m_X1_count, cn, hJ2]
      obtain ⟨K', F', q1, e, q3, q4, q5, q6⟩ := ref (ms J2 230 0 (nI F.length)) (fun a b h1 h2 => by rw [ms_o (by omega), jF _ _ (by omega), p5 _ _ (by omega) (by omega) (by omega) (by omega) (by omega)])
      subst e
      rcases q6 with ⟨_, q7⟩ | ⟨q7, _⟩
      · -- what is left as it was
        have tot : ∀ a b, ¬ (29 ≤ a ∧ a ≤ 31) → ¬ (34 ≤ a ∧ a ≤ 37) → ¬ (a = 33 ∧ b = 5) → ¬ (a = d ∧ b = 2) → ¬ (d + 5 ≤ a ∧ a < d + 65) → a ≠ 27 → a ≠ 230 → ¬ (a = 196 ∧ (b = 13 ∨ b = 16 ∨ b = 22 ∨ b = 35 ∨ b = 48)) → ¬ (207 ≤ a ∧ a ≤ 213) → ¬ (220 ≤ a ∧ a ≤ 221) → K' a b = I a b := fun a b h1 h2 h3 h4 h5 h6 h7 h8 h9 h10 => by
          rw [q7 a b h8 h9 h10, ms_o (by omega), jF a b h6, p5 a b h1 h2 h3 h4 h5]
        refine opA_ok (v := nI F'.length) (I1 := J2) (I2 := K') cl q1 q4 (by rw [q7 _ _ (by omega) (by omega) (by omega), ms_s rfl rfl]) ⟨?_, ?_, ⟨tx, 0, ?_⟩, FltP.of ?_ q3 p4, ?_, ⟨m, d, ?_⟩, ?_, ?_⟩
        · exact hI.1.congr fun a b q => tot a b (by unfold DSch at q; omega) (by unfold DSch at q; omega) (by unfold DSch at q; omega) (by unfold DSch at q; omega) (by unfold DSch at q; omega) (by unfold DSch at q; omega) (by unfold DSch at q; omega) (by unfold DSch at q; omega) (by unfold DSch at q; omega) (by unfold DSch at q; omega)
        · exact hI.2.1.congr fun a b q => tot a b (by unfold DNon at q; omega) (by unfold DNon at q; omega) (by unfold DNon at q; omega) (by unfold DNon at q; omega) (by unfold DNon at q; omega) (by unfold DNon at q; omega) (by unfold DNon at q; omega) (by unfold DNon at q; omega) (by unfold DNon at q; omega) (by unfold DNon at q; omega)
        · refine ⟨by omega, ?_, by rw [q5]; rfl, fun i hi => absurd hi (Nat.not_lt_zero _)⟩
          rw [q7 _ _ (by omega) (by omega) (by omega), ms_o (by omega), hJ2, ms_o (by omega), ms_s rfl rfl]
          rfl
        · exact p3.g fun a b q => by rw [q7 a b (by omega) (by omega) (by omega), ms_o (by omega), jF a b (by omega)]
        · exact hI.2.2.2.2.1.congr fun a b q => tot a b (by unfold DCtl at q; omega) (by unfold DCtl at q; omega) (by unfold DCtl at q; omega) (by unfold DCtl at q; omega) (by unfold DCtl at q; omega) (by unfold DCtl at q; omega) (by unfold DCtl at q; omega) (by unfold DCtl at q; omega) (by unfold DCtl at q; omega) (by unfold DCtl at q; omega)
        · exact AccP.congr ⟨hm, a1, a2, ha, a3, a4, a5⟩ fun a b q => tot a b (by unfold DAcc at q; omega) (by unfold DAcc at q; omega) (by unfold DAcc at q; omega) (by unfold DAcc at q; omega) (by unfold DAcc at q; omega) (by unfold DAcc at q; omega) (by unfold DAcc at q; omega) (by unfold DAcc at q; omega) (by unfold DAcc at q; omega) (by unfold DAcc at q; omega)
        · exact hI.2.2.2.2.2.2.1.congr fun a b q => tot a b (by unfold DRul at q; omega) (by unfold DRul at q; omega) (by unfold DRul at q; omega) (by unfold DRul at q; omega) (by unfold DRul at q; omega) (by unfold DRul at q; omega) (by unfold DRul at q; omega) (by unfold DRul at q; omega) (by unfold DRul at q; omega) (by unfold DRul at q; omega)
        · exact hI.2.2.2.2.2.2.2.congr fun a b q => tot a b (by unfold DOut' at q; omega) (by unfold DOut' at q; omega) (by unfold DOut' at q; omega) (by unfold DOut' at q; omega) (by unfold DOut' at q; omega) (by unfold DOut' at q; omega) (by unfold DOut' at q; omega) (by unfold DOut' at q; omega) (by unfold DOut' at q; omega) (by unfold DOut' at q; omega)
      · exact absurd q7 f1
    · -- accepted
      subst f2
      have hK : ∀ s ∈ S, SgK s := fun s hs => ⟨by rw [hSS] at hs; exact spS_B (fun i hi => ⟨(hT.2.2.2 i hi).1, (hT.2.2.2 i hi).2.1⟩) 20 0 s hs, by rw [hSS] at hs; exact spF_nil 20 0 (by rw [← hFF]; exact f3) s hs⟩
      obtain ⟨z2, eh, et⟩ := env_ok f4
      have lh := (isEv_ok eh).2
      have kh : SgK (hdS S) := hK _ (getD_memS (by omega))
      have j05 : J 0 5 = nI m := by rw [p5 _ _ (by omega) (by omega) (by omega) (by omega) (by omega), a1]
      have j06 : J 0 6 = nI d := by rw [p5 _ _ (by omega) (by omega) (by omega) (by omega) (by omega), a2]
      obtain ⟨J6, hJ6⟩ : ∃ J6, J6 = ms (ms (ms (ms J 0 5 (nI d)) 0 6 (nI m)) 0 7 1) 0 8 1 := ⟨_, rfl⟩
      have j65 : J6 0 5 = nI d := by rw [hJ6, ms_o (by omega), ms_o (by omega), ms_o (by omega), ms_s rfl rfl]
      have m6 : MsC J6 d S := ⟨by rw [hJ6, ms_o (by omega), ms_o (by omega), ms_o (by omega), ms_o (by omega), f5.1], fun i hi => (f5.2 i hi).g fun a b q => by rw [hJ6, ms_o (by omega), ms_o (by omega), ms_o (by omega), ms_o (by omega)]⟩
      have hcn : m_X4_headerControl d J6 = some (nmE (hdS S) 0) := by
        have at0 : m_X4_at d (0 : Int32) J6 = some (d + 5 + 3 * 0) := msgAt m6 hl (show 0 < S.length by omega)
        have n0 : m_X9_numberIn (d + 5 + 3 * 0) (0 : Int32) J6 = some (nmE (hdS S) 0) := kh.nC (m6.2 0 (by omega)) (j := 0) (by omega)
        simp only [m_X4_headerControl, at0, Option.bind_some, io_sg hd (show 0 < 20 by omega), gd_t, n0]
      obtain ⟨J2, hJ2⟩ : ∃ J2, J2 = ms (ms (ms J6 0 9 (nmE (hdS S) 0)) 27 1 0) 27 2 0 := ⟨_, rfl⟩
      have jF : ∀ a b, a ≠ 27 → ¬ (a = 0 ∧ 5 ≤ b ∧ b ≤ 9) → J2 a b = J a b := fun a b q q2 => by rw [hJ2, ms_o (by omega), ms_o (by omega), ms_o (by omega), hJ6, ms_o (by omega), ms_o (by omega), ms_o (by omega), ms_o (by omega)]
      have cl : m_X11_read 0 I = some (.inl (nI F.length), J2) := by
        have n10 : ¬ (1 : Int32) = 0 := by decide
        have j65' : ms (ms (ms (ms J 0 5 (nI d)) 0 6 (nI m)) 0 7 1) 0 8 1 0 5 = nI d := by rw [← hJ6]; exact j65
        rw [hJ6] at hcn
        have cn : ms (ms (ms (ms (ms (ms (ms J 0 5 (nI d)) 0 6 (nI m)) 0 7 1) 0 8 1) 0 9 (nmE (hdS S) 0)) 27 1 0) 27 2 0 29 2 = nI F.length := by rw [← hJ6, ← hJ2, jF _ _ (by omega) (by omega), p3.1]
        simp only [m_X11_read, Nat.reduceAdd, m_X8_isLoopOpen, h3, ok0, gd_t, Option.bind_some, if_true, a2, w1, io, p1, n10, if_false, m_X11_acceptDraft, j05, j06, w1', io', bnd, j65', hcn, m_X11_read_j50, m_X10_wipe, m_X1_count, cn, hJ2, hJ6]
      obtain ⟨K', F', q1, e, q3, q4, q5, q6⟩ := ref (ms J2 230 0 (nI F.length)) (fun a b h1 h2 => by rw [ms_o (by omega), jF _ _ (by omega) (by omega), p5 _ _ (by omega) (by omega) (by omega) (by omega) (by omega)])
      subst e
      rcases q6 with ⟨q7, _⟩ | ⟨_, q7, g23, g24, g25, g32, gA, gP⟩
      · exact absurd f1 q7
      · have tot : ∀ a b, ¬ (29 ≤ a ∧ a ≤ 31) → ¬ (34 ≤ a ∧ a ≤ 37) → ¬ (a = 33 ∧ b = 5) → ¬ (a = d ∧ b = 2) → ¬ (d + 5 ≤ a ∧ a < d + 65) → a ≠ 27 → ¬ (a = 0 ∧ 5 ≤ b ∧ b ≤ 9) → a ≠ 230 → ¬ (a = 196 ∧ (b = 13 ∨ b = 16 ∨ b = 22 ∨ b = 35 ∨ b = 48 ∨ (23 ≤ b ∧ b ≤ 25) ∨ b = 32)) → ¬ (207 ≤ a ∧ a ≤ 221) → K' a b = I a b := fun a b h1 h2 h3 h4 h5 h6 h6' h7 h8 h9 => by
          rw [q7 a b h8 h9, ms_o (by omega), jF a b h6 h6', p5 a b h1 h2 h3 h4 h5]
        have kJ : ∀ a b, a < 196 → K' a b = J2 a b := fun a b h => by rw [q7 a b (by omega) (by omega), ms_o (by omega)]
        refine opA_ok (v := nI F'.length) (I1 := J2) (I2 := K') cl q1 q4 (by rw [q7 _ _ (by omega) (by omega), ms_s rfl rfl]) ⟨?_, ?_, ⟨tx, 0, ?_⟩, FltP.of ?_ q3 p4, ⟨true, ?_, ?_, fun _ => ?_⟩, ⟨d, m, by omega, ?_, ?_, true, ?_, ?_, fun _ => ⟨S.length - 2, by omega, ?_, g32, fun s hs => ?_⟩⟩, ?_, ?_⟩
        · exact hI.1.congr fun a b q => tot a b (by unfold DSch at q; omega) (by unfold DSch at q; omega) (by unfold DSch at q; omega) (by unfold DSch at q; omega) (by unfold DSch at q; omega) (by unfold DSch at q; omega) (by unfold DSch at q; omega) (by unfold DSch at q; omega) (by unfold DSch at q; omega) (by unfold DSch at q; omega)
        · exact hI.2.1.congr fun a b q => tot a b (by unfold DNon at q; omega) (by unfold DNon at q; omega) (by unfold DNon at q; omega) (by unfold DNon at q; omega) (by unfold DNon at q; omega) (by unfold DNon at q; omega) (by unfold DNon at q; omega) (by unfold DNon at q; omega) (by unfold DNon at q; omega) (by unfold DNon at q; omega)
        · refine ⟨by omega, ?_, by rw [q5]; rfl, fun i hi => absurd hi (Nat.not_lt_zero _)⟩
          rw [kJ _ _ (by omega), hJ2, ms_o (by omega), ms_s rfl rfl]
          rfl
        · exact p3.g fun a b q => by rw [kJ a b (by omega), jF a b (by omega) (by omega)]
        · rw [kJ _ _ (by omega), hJ2, ms_o (by omega), ms_o (by omega), ms_o (by omega), hJ6, ms_s rfl rfl, bz_t]
        · rw [g24, bz_t]
        · rw [kJ _ _ (by omega), hJ2, ms_o (by omega), ms_o (by omega), ms_s rfl rfl, g25]
        · rw [kJ _ _ (by omega), hJ2, ms_o (by omega), ms_o (by omega), ms_o (by omega), j65]
        · rw [kJ _ _ (by omega), hJ2, ms_o (by omega), ms_o (by omega), ms_o (by omega), hJ6, ms_o (by omega), ms_o (by omega), ms_s rfl rfl]
        · rw [kJ _ _ (by omega), hJ2, ms_o (by omega), ms_o (by omega), ms_o (by omega), hJ6, ms_o (by omega), ms_s rfl rfl, bz_t]
        · rw [g23, bz_t]
        · rw [kJ _ _ (by omega), jF _ _ (by omega) (by omega), f5.1]
          congr 1
          omega
        · exact SegP.of (J := J) (S := S) (w := pth T (gS S) (S.length - 2) ni ne eo) hd (hK _ (getD_memS (by omega))) (f5.2 (s + 1) (by omega)) (f6 s hs) (gA s hs) (gP s hs) (fun a b q => by rw [kJ a b (by omega), jF a b (by omega) (by omega)]) (by omega)
        · exact hI.2.2.2.2.2.2.1.congr fun a b q => tot a b (by unfold DRul at q; omega) (by unfold DRul at q; omega) (by unfold DRul at q; omega) (by unfold DRul at q; omega) (by unfold DRul at q; omega) (by unfold DRul at q; omega) (by unfold DRul at q; omega) (by unfold DRul at q; omega) (by unfold DRul at q; omega) (by unfold DRul at q; omega)
        · exact hI.2.2.2.2.2.2.2.congr fun a b q => tot a b (by unfold DOut' at q; omega) (by unfold DOut' at q; omega) (by unfold DOut' at q; omega) (by unfold DOut' at q; omega) (by unfold DOut' at q; omega) (by unfold DOut' at q; omega) (by unfold DOut' at q; omega) (by unfold DOut' at q; omega) (by unfold DOut' at q; omega) (by unfold DOut' at q; omega)
