/-! the law feeds a message -/
def PV (Xs : Nat × (Nat → Int32)) (pv : Nat → Nat) : Prop := ∀ j, j < 1000 → pv j < 2 ^ 31 ∧ ∀ I : Mem, m_L_part Xs (nI j) I = some (nI (pv j))
theorem PV.ex {Xs : Nat × (Nat → Int32)} (hL : Xs.1 ≤ 260) : ∃ pv, PV Xs pv := by
  refine ⟨fun j => if h : j < 1000 then (part_ok hL j h).choose else 0, fun j hj => ?_⟩
  simp only [hj, dif_pos]
  exact (part_ok hL j hj).choose_spec
theorem feedEl {I : Mem} {W : List Nat} {Xs : Nat × (Nat → Int32)} {p3 p4 p5 : Int32} {v k e : Nat} (h : TxL I W) (hv : v < 2 ^ 31) (hk : k < 100) (he : e < 5) (hl : W.length + ((List.range (lenF v k e)).flatMap (fun n => [63, ltF (v / 7 + 11 * e + n)])).length ≤ 300) :
    FdT I (loopF (fun a => m_L_feedAll_b90 0 Xs p3 p4 p5 (nI k) (nI v) (nI e) a.1 a.2) FU ((0 : Int32), I)) W ((List.range (lenF v k e)).flatMap (fun n => [63, ltF (v / 7 + 11 * e + n)])) := by
  have h4 := lenF_le (v := v) (k := k) (e := e)
  have d7 : nI v / 7 = nI (v / 7) := pk_div (d := 7) hv (by omega) (by omega)
  have h7 : v / 7 ≤ v := Nat.div_le_self _ _
  have h72 : v / 7 < 2 ^ 29 := by omega
  have m11 : (11 : Int32) * nI e = nI (11 * e) := pk_mul 11 e
  refine fd_loop (by omega) (fun x J V hx hJ hV => ?_) (fun J => ?_) h hl
  · have c : ¬ nI (lenF v k e) ≤ nI x := nI_ge hx (by omega)
    obtain ⟨J1, a1, a2, a3⟩ := feed_ok (c := 63) hJ (by simp at hV; omega) (by omega) (by omega)
    have a1' : m_X11_feed 0 (63 : Int32) J = some (nI (V.length + 1), J1) := a1
    have hb := ltF_b (w := v / 7 + 11 * e + x)
    obtain ⟨J2, b1, b2, b3⟩ := feed_ok (c := ltF (v / 7 + 11 * e + x)) a2 (by rw [List.length_append]; simp at hV ⊢; omega) hb.1 hb.2
    have lt : ∀ I, m_L_letter (nI (v / 7 + 11 * e + x)) I = some (nI (ltF (v / 7 + 11 * e + x))) := fun I => ltF_ok (by omega)
    refine ⟨J2, ?_, by rw [List.append_assoc] at b2; exact b2, a3.tr b3⟩
    simp only [m_L_feedAll_b90, lenF_ok hv hk he, Option.bind_some, c, if_false, a1', d7, m11, nI_add, lt, b1, nI_1]
  · have c : nI (lenF v k e) ≤ nI (lenF v k e) := nI_le (by omega) (by omega)
    simp only [m_L_feedAll_b90, lenF_ok hv hk he, Option.bind_some, c, if_true]
theorem feedEls {I : Mem} {W : List Nat} {Xs : Nat × (Nat → Int32)} {p3 p4 p5 : Int32} {v k : Nat} (h : TxL I W) (hv : v < 2 ^ 31) (hk : k < 100) (hl : W.length + ((List.range (min (v / 4 % 6) 5)).flatMap (fun e => 43 :: (List.range (lenF v k e)).flatMap (fun n => [63, ltF (v / 7 + 11 * e + n)]))).length ≤ 300) :
    FdT I (loopF (fun a => m_L_feedAll_b62 0 Xs p3 p4 p5 (nI k) (nI v) a.1 a.2) FU ((0 : Int32), I)) W ((List.range (min (v / 4 % 6) 5)).flatMap (fun e => 43 :: (List.range (lenF v k e)).flatMap (fun n => [63, ltF (v / 7 + 11 * e + n)]))) := by
  have d4 : nI v / 4 = nI (v / 4) := pk_div (d := 4) hv (by omega) (by omega)
  have h4 : v / 4 ≤ v := Nat.div_le_self _ _
  have r6 : nI (v / 4) - nI (v / 4) / 6 * 6 = nI (v / 4 % 6) := rm (d := 6) (by omega) (by omega) (by omega)
  have hmin : min (v / 4 % 6) 5 = v / 4 % 6 := by omega
  rw [hmin] at hl ⊢
  refine fd_loop (by omega) (fun x J V hx hJ hV => ?_) (fun J => ?_) h hl
  · have c : ¬ nI (v / 4 % 6) ≤ nI x := nI_ge hx (by omega)
    have c2 : ¬ (5 : Int32) ≤ nI x := nI_ge (b := 5) (by omega) (by omega)
    rw [List.length_cons] at hV
    obtain ⟨J1, a1, a2, a3⟩ := feed_ok (c := 43) hJ (by omega) (by omega) (by omega)
    have a1' : m_X11_feed 0 (43 : Int32) J = some (nI (V.length + 1), J1) := a1
    obtain ⟨J2, b1, b2, b3⟩ := feedEl (Xs := Xs) (p3 := p3) (p4 := p4) (p5 := p5) a2 hv hk (show x < 5 by omega) (by rw [List.length_append, List.length_singleton]; omega)
    refine ⟨J2, ?_, by rw [List.append_assoc] at b2; exact b2, a3.tr b3⟩
    simp only [m_L_feedAll_b62, d4, r6, c, c2, if_false, a1', Option.bind_some, b1, nI_1]
  · have c : nI (v / 4 % 6) ≤ nI (v / 4 % 6) := nI_le (by omega) (by omega)
    simp only [m_L_feedAll_b62, d4, r6, c, if_true]
def fedB (pv : Nat → Nat) (fm many : Nat) : List Sgt := (List.range many).map (fun k => sgF1 (pv (fm + k)) k)
theorem fedB_len {pv : Nat → Nat} {fm many : Nat} : (fedB pv fm many).length = many := by simp [fedB]
theorem fedB_enc {pv : Nat → Nat} {fm many : Nat} : (fedB pv fm many).flatMap encS = (List.range many).flatMap (fun k => encS (sgF1 (pv (fm + k)) k)) := by
  unfold fedB
  rw [List.flatMap_map]
theorem fedB_cl {pv : Nat → Nat} {fm many : Nat} (h : many ≤ 4) : ((fedB pv fm many).flatMap encS).length ≤ 188 := by
  rw [fedB_enc]
  have := flat_len (n := many) (c := 47) (F := fun k => encS (sgF1 (pv (fm + k)) k)) (fun x _ => enc_sg_len _ _)
  omega
theorem feedSegs {I : Mem} {W : List Nat} {Xs : Nat × (Nat → Int32)} {pv : Nat → Nat} {p5 : Int32} {fm many : Nat} (hP : PV Xs pv) (h : TxL I W) (hf : fm ≤ 100) (hm : many ≤ 4) (hl : W.length + ((fedB pv fm many).flatMap encS).length ≤ 300) :
    FdT I (loopF (fun a => m_L_feedAll_b30 0 Xs (nI fm) (nI many) p5 a.1 a.2) FU ((0 : Int32), I)) W ((fedB pv fm many).flatMap encS) := by
  rw [fedB_enc] at hl ⊢
  refine fd_loop (by omega) (fun x J V hx hJ hV => ?_) (fun J => ?_) h hl
  · have c : ¬ nI many ≤ nI x := nI_ge hx (by omega)
    obtain ⟨hv, hp⟩ := hP (fm + x) (by omega)
    obtain ⟨v, hveq⟩ : ∃ v, v = pv (fm + x) := ⟨_, rfl⟩
    rw [← hveq] at hv hp hV ⊢
    have r3 : nI v - nI v / 3 * 3 = nI (v % 3) := rm (d := 3) hv (by omega) (by omega)
    have c1 : (((65 : Int32) + nI (v % 3)).toUInt32 % 65536).toInt32 = nI (65 + v % 3) := by
      rw [show (65 : Int32) + nI (v % 3) = nI (65 + v % 3) from nI_add 65 _]
      exact chr (by omega)
    rw [enc_sg] at hV ⊢
    rw [List.length_cons, List.length_append, List.length_singleton] at hV
    obtain ⟨J1, a1, a2, a3⟩ := feed_ok (c := 65 + v % 3) hJ (by omega) (by omega) (by omega)
    obtain ⟨J2, b1, b2, b3⟩ := feedEls (Xs := Xs) (p3 := nI fm) (p4 := nI many) (p5 := p5) a2 hv (show x < 100 by omega) (by rw [List.length_append, List.length_singleton]; omega)
    obtain ⟨J3, d1, d2, d3⟩ := feed_ok (c := 39) b2 (by rw [List.length_append, List.length_append, List.length_singleton]; omega) (by omega) (by omega)
    refine ⟨J3, ?_, ?_, (a3.tr b3).tr d3⟩
    · have d1' : m_X11_feed 0 (39 : Int32) J2 = some (_, J3) := d1
      simp only [m_L_feedAll_b30, c, if_false, nI_add, hp, Option.bind_some, r3, c1, a1, b1, d1', nI_1]
    · simp only [List.append_assoc] at d2
      exact d2
  · have c : nI many ≤ nI many := nI_le (by omega) (by omega)
    simp only [m_L_feedAll_b30, c, if_true]
theorem feedAll_ok {I : Mem} {Xs : Nat × (Nat → Int32)} {pv : Nat → Nat} {fm many c : Nat} (hP : PV Xs pv) (h : TxL I []) (hf : fm ≤ 100) (hm : many ≤ 4) (hc : c ≤ 99) :
    FdT I (m_L_feedAll 0 Xs (nI fm) (nI many) (nI c) I) [] (encM (msT (fedB pv fm many) c)) := by
  have hF := fedB_cl (pv := pv) (fm := fm) hm
  have hD := dig_len (n := c)
  have hN := dig_len (n := many + 2)
  have e2 : nI many + 2 = nI (many + 2) := nI_add many 2
  rw [enc_ms, fedB_len]
  unfold m_L_feedAll
  rw [e2]
  refine FdT.feed (c := 72) h rfl (by simp only [List.length_append, List.length_cons, List.length_nil]; omega) (by omega) (by omega) fun y1 I1 h1 _ => ?_
  refine FdT.feed (c := 43) h1 rfl (by simp only [List.length_append, List.length_cons, List.length_nil]; omega) (by omega) (by omega) fun y2 I2 h2 _ => ?_
  refine FdT.bind (feedNum h2 hc (by simp only [List.length_append, List.length_cons, List.length_nil]; omega)) fun I3 h3 _ => ?_
  refine FdT.feed (c := 39) h3 rfl (by simp only [List.length_append, List.length_cons, List.length_nil]; omega) (by omega) (by omega) fun y4 I4 h4 _ => ?_
  refine FdT.bind (feedSegs hP h4 hf hm (by simp only [List.length_append, List.length_cons, List.length_nil]; omega)) fun I5 h5 _ => ?_
  refine FdT.feed (c := 84) h5 rfl (by simp only [List.length_append, List.length_cons, List.length_nil]; omega) (by omega) (by omega) fun y6 I6 h6 _ => ?_
  refine FdT.feed (c := 43) h6 rfl (by simp only [List.length_append, List.length_cons, List.length_nil]; omega) (by omega) (by omega) fun y7 I7 h7 _ => ?_
  refine FdT.bind (feedNum h7 (show many + 2 ≤ 99 by omega) (by simp only [List.length_append, List.length_cons, List.length_nil]; omega)) fun I8 h8 _ => ?_
  refine FdT.feed (c := 43) h8 rfl (by simp only [List.length_append, List.length_cons, List.length_nil]; omega) (by omega) (by omega) fun y9 I9 h9 _ => ?_
  refine FdT.bind (feedNum h9 hc (by simp only [List.length_append, List.length_cons, List.length_nil]; omega)) fun I10 h10 _ => ?_
  exact FdT.feed (c := 39) h10 rfl (by simp only [List.length_append, List.length_cons, List.length_nil]; omega) (by omega) (by omega) fun y11 I11 h11 _ => FdT.nil h11
