/-! the law -/
def qs (f : Nat) : List (Nat × Nat × Int32) :=
  [(1, 4, 3), (1, 5, 1), (1, 6, 0), (16, 0, 1), (16, 1, 0), (16, 2, 3), (16, 3, 0), (16, 4, 9), (64, 2, 0), (64, 3, 32), (64, 4, 0), (129, 2, 0), (129, 3, 32), (129, 4, 0), (38, 2, 3), (0, 5, 62), (0, 6, 127), (0, 8, 0), (0, 10, 192), (0, 11, 194), (0, 12, 0), (27, 1, 0)] ++
  ((List.range 3).flatMap (fun r => [(6 + r, 0, nI (65 + r)), (6 + r, 1, 0), (6 + r, 2, 9), (42 + 2 * r, 1, nI r), (42 + 2 * r, 2, nI (65 + r)), (42 + 2 * r, 3, nI f), (42 + 2 * r, 4, -1)] ++ (List.range f).map (fun x => (43 + 2 * r, x, nI x))))
def okLaid (f : Nat) : Bool := match m_L_isLaid 0 (nI f) I0 with
  | some (r, J) => decide (r = 1) && (qs f).all (fun q => decide (J q.1 q.2.1 = q.2.2))
  | none => false
set_option maxRecDepth 1000000 in
theorem laid_run : ∀ f : Fin 6, okLaid f.val = true := by decide +kernel
theorem laid_ok {f : Nat} (hf : f ≤ 5) : ∃ J, m_L_isLaid 0 (nI f) I0 = some (1, J) ∧ ST J f 62 127 192 194 0 false 0 ∧ TxL J [] := by
  have h := laid_run ⟨f, by omega⟩
  unfold okLaid at h
  cases hl : m_L_isLaid 0 (nI f) I0 with
  | none => simp only [hl] at h; cases h
  | some y =>
    obtain ⟨r, J⟩ := y
    simp only [hl] at h
    obtain ⟨h1, h2⟩ := Bool.and_eq_true_iff.mp h
    have h1 := of_decide_eq_true h1
    subst h1
    have key : ∀ q, q ∈ qs f → J q.1 q.2.1 = q.2.2 := fun q hq => of_decide_eq_true (List.all_eq_true.mp h2 q hq)
    have k0 : ∀ a b v, (a, b, v) ∈ ([(1, 4, 3), (1, 5, 1), (1, 6, 0), (16, 0, 1), (16, 1, 0), (16, 2, 3), (16, 3, 0), (16, 4, 9), (64, 2, 0), (64, 3, 32), (64, 4, 0), (129, 2, 0), (129, 3, 32), (129, 4, 0), (38, 2, 3), (0, 5, 62), (0, 6, 127), (0, 8, 0), (0, 10, 192), (0, 11, 194), (0, 12, 0), (27, 1, 0)] : List (Nat × Nat × Int32)) → J a b = v := fun a b v hq => key (a, b, v) (List.mem_append.mpr (Or.inl hq))
    have kr : ∀ r, r < 3 → ∀ a b v, (a, b, v) ∈ ([(6 + r, 0, nI (65 + r)), (6 + r, 1, 0), (6 + r, 2, 9), (42 + 2 * r, 1, nI r), (42 + 2 * r, 2, nI (65 + r)), (42 + 2 * r, 3, nI f), (42 + 2 * r, 4, -1)] : List (Nat × Nat × Int32)) → J a b = v := fun r hr a b v hq =>
      key (a, b, v) (List.mem_append.mpr (Or.inr (List.mem_flatMap.mpr ⟨r, List.mem_range.mpr hr, List.mem_append.mpr (Or.inl hq)⟩)))
    have kx : ∀ r, r < 3 → ∀ x, x < f → J (43 + 2 * r) x = nI x := fun r hr x hx =>
      key (43 + 2 * r, x, nI x) (List.mem_append.mpr (Or.inr (List.mem_flatMap.mpr ⟨r, List.mem_range.mpr hr, List.mem_append.mpr (Or.inr (List.mem_map.mpr ⟨x, List.mem_range.mpr hx, rfl⟩))⟩)))
    have a14 : J 1 4 = 3 := k0 1 4 3 (by simp)
    have a15 : J 1 5 = 1 := k0 1 5 1 (by simp)
    have a16 : J 1 6 = 0 := k0 1 6 0 (by simp)
    have b0 : J 16 0 = 1 := k0 16 0 1 (by simp)
    have b1 : J 16 1 = 0 := k0 16 1 0 (by simp)
    have b2 : J 16 2 = 3 := k0 16 2 3 (by simp)
    have b3 : J 16 3 = 0 := k0 16 3 0 (by simp)
    have b4 : J 16 4 = 9 := k0 16 4 9 (by simp)
    have d2 : J 64 2 = 0 := k0 64 2 0 (by simp)
    have d3 : J 64 3 = 32 := k0 64 3 32 (by simp)
    have d4 : J 64 4 = 0 := k0 64 4 0 (by simp)
    have e2 : J 129 2 = 0 := k0 129 2 0 (by simp)
    have e3 : J 129 3 = 32 := k0 129 3 32 (by simp)
    have e4 : J 129 4 = 0 := k0 129 4 0 (by simp)
    have g2 : J 38 2 = 3 := k0 38 2 3 (by simp)
    have o5 : J 0 5 = 62 := k0 0 5 62 (by simp)
    have o6 : J 0 6 = 127 := k0 0 6 127 (by simp)
    have o8 : J 0 8 = 0 := k0 0 8 0 (by simp)
    have o10 : J 0 10 = 192 := k0 0 10 192 (by simp)
    have o11 : J 0 11 = 194 := k0 0 11 194 (by simp)
    have o12 : J 0 12 = 0 := k0 0 12 0 (by simp)
    have t1 : J 27 1 = 0 := k0 27 1 0 (by simp)
    have i0 : ∀ r, r < 3 → J (6 + r) 0 = nI (65 + r) := fun r hr => kr r hr (6 + r) 0 (nI (65 + r)) (by simp)
    have i1 : ∀ r, r < 3 → J (6 + r) 1 = 0 := fun r hr => kr r hr (6 + r) 1 0 (by simp)
    have i2 : ∀ r, r < 3 → J (6 + r) 2 = 9 := fun r hr => kr r hr (6 + r) 2 9 (by simp)
    have r1 : ∀ r, r < 3 → J (42 + 2 * r) 1 = nI r := fun r hr => kr r hr (42 + 2 * r) 1 (nI r) (by simp)
    have r2 : ∀ r, r < 3 → J (42 + 2 * r) 2 = nI (65 + r) := fun r hr => kr r hr (42 + 2 * r) 2 (nI (65 + r)) (by simp)
    have r3 : ∀ r, r < 3 → J (42 + 2 * r) 3 = nI f := fun r hr => kr r hr (42 + 2 * r) 3 (nI f) (by simp)
    have r4 : ∀ r, r < 3 → J (42 + 2 * r) 4 = -1 := fun r hr => kr r hr (42 + 2 * r) 4 (-1) (by simp)
    have hSch : SchC J TT 3 1 false := by
      refine ⟨a14, a15, a16, fun i hi => ⟨i0 i hi, i1 i hi, i2 i hi⟩, fun e he => ?_⟩
      obtain rfl : e = 0 := by omega
      exact ⟨b0, b1, b2, b3, b4⟩
    have hNon : Non J := by
      rintro a (rfl | rfl)
      · exact ⟨d2, d3, d4⟩
      · exact ⟨e2, e3, e4⟩
    exact ⟨J, rfl, ⟨⟨hf, hSch, hNon, g2, fun r hr => ⟨r1 r hr, r2 r hr, r3 r hr, r4 r hr, kx r hr⟩⟩, ⟨Or.inl ⟨rfl, rfl⟩, o5, o6⟩, ⟨o8, fun q => nomatch q⟩, Or.inl ⟨rfl, rfl⟩, o10, o11, o12⟩, by simp, t1, fun i hi => absurd hi (by simp)⟩
theorem T3_65 (v : Nat) : T3 (65 + v % 3) := ⟨by omega, by omega⟩
theorem as_fed (v k : Nat) : asO (sgF1 v k) = acF v k := by
  unfold asO sgF1 acF
  have e : lts [(false, 65 + v % 3)] = [65 + v % 3] := rfl
  rw [e, (tgC_1 (T3_65 v)).1, List.map_map]
  congr 1
  refine List.map_congr_left fun x _ => ?_
  show lts (List.map _ _) = _
  unfold lts
  rw [List.map_map]
  rfl
theorem fed_as {pv : Nat → Nat} {fm many : Nat} : (fedB pv fm many).map asO = acB pv fm many := by
  unfold fedB acB
  rw [List.map_map]
  refine List.map_congr_left fun x _ => ?_
  exact as_fed _ _
theorem SgO_fed (v k : Nat) : SgO (sgF1 v k) := by
  refine ⟨fun x hx => ?_, (tgC_1 (T3_65 v)).2, by simp [sgF1]; omega, fun K hK => ?_, fun K hK => ?_⟩
  · have : x = (false, 65 + v % 3) := by simpa [sgF1] using hx
    subst this
    simp only [true_implies]
    omega
  · obtain ⟨e, he, rfl⟩ := List.mem_map.mp hK
    intro q hq
    obtain ⟨n, hn, rfl⟩ := List.mem_map.mp hq
    have hb := ltF_b (w := v / 7 + 11 * e + n)
    exact ⟨hb.1, hb.2, fun h => nomatch h⟩
  · obtain ⟨e, he, rfl⟩ := List.mem_map.mp hK
    have := lenF_le (v := v) (k := k) (e := e)
    simp
    omega
theorem Sm_fed {pv : Nat → Nat} {fm many : Nat} : Sm (acB pv fm many) := by
  intro s hs w hw
  obtain ⟨k, hk, rfl⟩ := List.mem_map.mp hs
  obtain ⟨e, he, rfl⟩ := List.mem_map.mp hw
  have := lenF_le (v := pv (fm + k)) (k := k) (e := e)
  simp
  omega
theorem control_ok {I : Mem} {c : Nat} (h : Cz I true c) : m_X11_control 0 I = some (nI c) := by
  have n10 : ¬ (1 : Int32) = 0 := by decide
  have h1 : I 0 8 = 1 := h.1
  simp only [m_X11_control, h1, n10, if_false, h.2 rfl]
/-- both objects before the round e -/
def RD (I : Mem2) (f c e : Nat) : Prop := (∃ m d u v, ST I.1 f m d u v e (decide (0 < e)) (c + e - 1)) ∧ TxL I.1 [] ∧ (∃ m d u v, ST I.2 f m d u v 0 (decide (0 < e)) e) ∧ TxL I.2 []
theorem round_ok {Xs : Nat × (Nat → Int32)} {pv : Nat → Nat} {I : Mem2} {f c e : Nat} (hP : PV Xs pv) (h : RD I f c e) (hc : 1 ≤ c ∧ c ≤ 80) (he : e < 6) : ∃ I' : Mem2, m_L_law_b63 Xs (nI f) (nI c) 1 (nI e) I = some (.inl ((1 : Int32), nI (e + 1), I')) ∧ RD I' f c (e + 1) := by
  obtain ⟨Io, Ip⟩ := I
  obtain ⟨⟨m, d, u, v, hO⟩, hTo, ⟨m', d', u', v', hQ⟩, hTp⟩ := h
  simp only at hO hTo hQ hTp
  obtain ⟨hv, hp⟩ := hP (2 + e) (by omega)
  have c6 : ¬ (6 : Int32) ≤ nI e := nI_ge (b := 6) he (by omega)
  have n10 : ¬ (1 : Int32) = 0 := by decide
  have r5 : nI (pv (2 + e)) - nI (pv (2 + e)) / 5 * 5 = nI (pv (2 + e) % 5) := rm (d := 5) hv (by omega) (by omega)
  have a2 : (2 : Int32) + nI e = nI (2 + e) := nI_add 2 e
  have m7 : (7 : Int32) * nI e = nI (7 * e) := pk_mul 7 e
  have ac : nI c + nI e = nI (c + e) := nI_add c e
  obtain ⟨many, hmany⟩ : ∃ many, many = pv (2 + e) % 5 := ⟨_, rfl⟩
  have hm4 : many ≤ 4 := by omega
  rw [← hmany] at r5
  obtain ⟨I5, f1, f2, f3⟩ := feedAll_ok (fm := 7 * e) (many := many) (c := c + e) hP hTo (by omega) hm4 (by omega)
  have f2' : TxL I5 (encM (msT (fedB pv (7 * e) many) (c + e))) := f2
  have hB : ∀ s ∈ fedB pv (7 * e) many, SgO s ∧ T3 (tgC (lts s.1)) := by
    intro s hs
    obtain ⟨k, hk, rfl⟩ := List.mem_map.mp hs
    refine ⟨SgO_fed _ _, ?_⟩
    have e1 : tgC (lts (sgF1 (pv (7 * e + k)) k).1) = 65 + pv (7 * e + k) % 3 := (tgC_1 (T3_65 _)).1
    rw [e1]
    exact T3_65 _
  obtain ⟨I6, g1, g2, g3, g4, g5⟩ := read_ok (hO.t f3) f2' hB (by rw [fedB_len]; exact hm4) (by omega) (fun q => by have := of_decide_eq_true q; omega)
  rw [fed_as] at g4
  have hf := asFed_ok hP g4 hm4 (by omega)
  have lo := length_ok g3
  have ct := control_ok g2.2.2.1
  obtain ⟨I7, w1, w2, w3, w4, w5⟩ := write_ok g2 g4 g3 Sm_fed (by omega)
  obtain ⟨J, x1, x2, x3⟩ := again_ok (c := e + 1) w2 w3 w5 hQ hTp (by omega) (fun _ => rfl)
  have wr := written_ok w2.2.2.2 w5
  have cp := control_ok x2.2.2.1
  refine ⟨(I7, J), ?_, ⟨d, m, v, u, ?_⟩, w4, ⟨d', m', u', v', ?_⟩, x3⟩
  · have l0 : (nI ([] : List Nat).length) = 0 := rfl
    rw [l0] at lo
    simp only [m_L_law_b63, c6, if_false, n10, a2, hp, Option.bind_some, r5, m7, ac, f1, g1, if_true, lo, ct, hf, m_L_law_j150, w1, wr, x1, cp, nI_1, m_L_law_j193]
  · rw [decide_eq_true (show 0 < e + 1 by omega), show c + (e + 1) - 1 = c + e by omega]
    exact w2
  · rw [decide_eq_true (show 0 < e + 1 by omega)]
    exact x2
theorem law_1 {L : Nat} (hL : L ≤ 260) (xs : Nat → Int32) : ∃ y, m_L_law (L, xs) ((I0, I0) : Mem2) = some y ∧ y.1 = 1 := by
  obtain ⟨pv, hP⟩ := PV.ex (Xs := (L, xs)) hL
  obtain ⟨hv0, hp0⟩ := hP 0 (by omega)
  obtain ⟨hv1, hp1⟩ := hP 1 (by omega)
  have hp0' : ∀ I, m_L_part (L, xs) (0 : Int32) I = some (nI (pv 0)) := hp0
  have hp1' : ∀ I, m_L_part (L, xs) (1 : Int32) I = some (nI (pv 1)) := hp1
  have r6 : nI (pv 0) - nI (pv 0) / 6 * 6 = nI (pv 0 % 6) := rm (d := 6) hv0 (by omega) (by omega)
  have r80 : nI (pv 1) - nI (pv 1) / 80 * 80 = nI (pv 1 % 80) := rm (d := 80) hv1 (by omega) (by omega)
  have a1 : (1 : Int32) + nI (pv 1 % 80) = nI (1 + pv 1 % 80) := nI_add 1 _
  obtain ⟨J, l1, l2, l3⟩ := laid_ok (f := pv 0 % 6) (by omega)
  have l2' : ST J (pv 0 % 6) 62 127 192 194 0 false (1 + pv 1 % 80 + 0 - 1) := ⟨l2.1, l2.2.1, ⟨l2.2.2.1.1, fun h => nomatch h⟩, l2.2.2.2⟩
  obtain ⟨b, f1, f2⟩ := loop_run (body := fun a => m_L_law_b63 (L, xs) (nI (pv 0 % 6)) (nI (1 + pv 1 % 80)) a.1 a.2.1 a.2.2) (Inv := fun r a => ∃ e I, e ≤ 6 ∧ r = 6 - e ∧ a = ((1 : Int32), nI e, I) ∧ RD I (pv 0 % 6) (1 + pv 1 % 80) e) (Post := fun b => b.1 = 1) (fun r a ⟨e, I, g1, g2, g3, g4⟩ => by
    subst g3
    by_cases z : e = 6
    · subst z
      have c6 : (6 : Int32) ≤ nI 6 := by decide
      exact Or.inl ⟨((1 : Int32), I), by simp only [m_L_law_b63, c6, if_true], rfl⟩
    · obtain ⟨I', h1, h2⟩ := round_ok hP g4 ⟨by omega, by omega⟩ (show e < 6 by omega)
      exact Or.inr ⟨((1 : Int32), nI (e + 1), I'), 6 - (e + 1), by omega, h1, e + 1, I', by omega, rfl, rfl, h2⟩) FU 6 ((1 : Int32), (0 : Int32), ((J, J) : Mem2)) (by unfold FU; omega) ⟨0, (J, J), by omega, rfl, rfl, ⟨62, 127, 192, 194, l2'⟩, l3, ⟨62, 127, 192, 194, l2⟩, l3⟩
  · have n10 : ¬ (1 : Int32) = 0 := by decide
    have ok : okz b.1 = true := by rw [f2]; decide
    refine ⟨(b.1, b.2), ?_, f2⟩
    simp only [m_L_law, hp0', Option.bind_some, r6, l1, n10, if_false, m_L_law_j46, hp1', r80, a1, f1, ok, gd_t]
