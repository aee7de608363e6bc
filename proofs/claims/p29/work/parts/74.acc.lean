/-! the accepted message and its calls -/
abbrev As : Type := Nat × List (List Nat)
def zA : As := (0, [])
def tgs (B : List As) : List Nat := B.map (fun s => s.1)
def PS (ts : List Nat) (s : Nat) : Nat := IT ts s / 10 % 10
def AcS (I : Mem) (g : Nat) (s : As) : Prop := I g 3 = nI s.1 ∧ T3 s.1 ∧ s.2.length ≤ 5 ∧ (∀ w ∈ s.2, w.length ≤ 8 ∧ LB w) ∧ SgC I g s.2
def AcP (I : Mem) (m : Nat) (B : List As) : Prop := (∃ d, (m = 62 ∧ d = 127) ∨ (m = 127 ∧ d = 62)) ∧ B.length ≤ 4 ∧ I 0 5 = nI m ∧ I 0 7 = 1 ∧ I m 2 = nI (B.length + 2) ∧
  ∀ s, s < B.length → AcS I (m + 8 + 3 * s) (B.getD s zA) ∧ I (m + 8 + 3 * s) 5 = nI ((B.getD s zA).1 - 65) ∧ I (m + 8 + 3 * s) 6 = nI (PS (tgs B) s) ∧ 1 ≤ PS (tgs B) s
theorem AcP.fr {I I' : Mem} {m : Nat} {B : List As} (h : AcP I m B) (hf : ∀ a b, (a = 0 ∧ (b = 5 ∨ b = 7)) ∨ (62 ≤ a ∧ a < 192) → I' a b = I a b) : AcP I' m B := by
  obtain ⟨⟨d, hm⟩, h1, h2, h3, h4, h5⟩ := h
  refine ⟨⟨d, hm⟩, h1, by rw [hf _ _ (by omega), h2], by rw [hf _ _ (by omega), h3], by rw [hf _ _ (by omega), h4], fun s hs => ?_⟩
  obtain ⟨⟨k1, k2, k3, k4, k5⟩, k6, k7, k8⟩ := h5 s hs
  exact ⟨⟨by rw [hf _ _ (by omega), k1], k2, k3, k4, k5.g fun a b q => hf a b (by omega)⟩, by rw [hf _ _ (by omega), k6], by rw [hf _ _ (by omega), k7], k8⟩
theorem AcS.el {I : Mem} {g : Nat} {s : As} (h : AcS I g s) {j : Nat} (hj : j < s.2.length) : (s.2.getD j []).length ≤ 8 ∧ LB (s.2.getD j []) := by
  refine h.2.2.2.1 _ ?_
  rw [List.getD_eq_getElem?_getD, List.getElem?_eq_getElem hj]
  exact List.getElem_mem hj
theorem ac_msg {I : Mem} {m : Nat} {B : List As} (h : AcP I m B) : (nI m).toNatClampNeg = m ∧ iO m 4 = true := by
  obtain ⟨⟨d, hm⟩, -⟩ := h
  exact ⟨nI_clamp (by omega), io_msg hm⟩
theorem ac_need {I : Mem} {m : Nat} {B : List As} (h : AcP I m B) : m_X11_needMessage 0 I = some () := by
  have h7 := h.2.2.2.1
  have n10 : ¬ (1 : Int32) = 0 := by decide
  simp only [m_X11_needMessage, h7, n10, if_false]
theorem segments_ok {I : Mem} {m : Nat} {B : List As} (h : AcP I m B) : m_X11_segments 0 I = some (nI B.length) := by
  have hm := ac_msg h
  have hn := ac_need h
  obtain ⟨-, h1, h2, h3, h4, h5⟩ := h
  simp only [m_X11_segments, hn, Option.bind_some, h2, hm.1, hm.2, gd_t, bC (show B.length ≤ 18 by omega) h4]
theorem ac_seg {I : Mem} {m s : Nat} {B : List As} (h : AcP I m B) (hs : s < B.length) : m_X11_needSegment 0 (nI s) I = some () ∧ m_X4_bodyAt m (nI s) I = some (m + 8 + 3 * s) ∧ iO (m + 8 + 3 * s) 9 = true := by
  have hm := ac_msg h
  have hn := ac_need h
  obtain ⟨⟨d, hd⟩, h1, h2, h3, h4, h5⟩ := h
  have c0 : ¬ nI s < 0 := nI_pos (by omega)
  have c1 : nI s < nI B.length := nI_lt hs (by omega)
  refine ⟨?_, bA hd (by omega) h4 hs, io_seg hd (by omega)⟩
  simp only [m_X11_needSegment, hn, Option.bind_some, c0, if_false, h2, hm.1, hm.2, gd_t, bC (show B.length ≤ 18 by omega) h4, c1, if_true]
theorem tag_ok {I : Mem} {m s : Nat} {B : List As} (h : AcP I m B) (hs : s < B.length) : m_X11_tag 0 (nI s) I = some (nI (B.getD s zA).1) := by
  have hm := ac_msg h
  obtain ⟨q1, q2, q3⟩ := ac_seg h hs
  obtain ⟨-, h1, h2, h3, h4, h5⟩ := h
  obtain ⟨⟨k1, k2, -⟩, -⟩ := h5 s hs
  have ok : okc (nI (B.getD s zA).1) = true := okc_n' (by have := k2.2; omega)
  simp only [m_X11_tag, q1, Option.bind_some, h2, hm.1, hm.2, gd_t, q2, q3, m_X9_mark, k1, ok]
theorem elements_ok {I : Mem} {m s : Nat} {B : List As} (h : AcP I m B) (hs : s < B.length) : m_X11_elements 0 (nI s) I = some (nI (B.getD s zA).2.length) := by
  have hm := ac_msg h
  obtain ⟨q1, q2, q3⟩ := ac_seg h hs
  obtain ⟨-, h1, h2, h3, h4, h5⟩ := h
  obtain ⟨⟨k1, k2, k3, k4, k5⟩, -⟩ := h5 s hs
  simp only [m_X11_elements, q1, Option.bind_some, h2, hm.1, hm.2, gd_t, q2, q3, m_X9_elementCount, k5.1]
theorem item_ok {I : Mem} {m s : Nat} {B : List As} (h : AcP I m B) (hs : s < B.length) : m_X11_item 0 (nI s) I = some (nI ((B.getD s zA).1 - 65)) := by
  have hm := ac_msg h
  obtain ⟨q1, q2, q3⟩ := ac_seg h hs
  obtain ⟨-, h1, h2, h3, h4, h5⟩ := h
  obtain ⟨-, k6, -⟩ := h5 s hs
  simp only [m_X11_item, q1, Option.bind_some, h2, hm.1, hm.2, gd_t, q2, q3, m_X9_itemNumber, k6]
theorem pass_ok {I : Mem} {m s : Nat} {B : List As} (h : AcP I m B) (hs : s < B.length) : m_X11_pass 0 (nI s) I = some (nI (PS (tgs B) s)) := by
  have hm := ac_msg h
  obtain ⟨q1, q2, q3⟩ := ac_seg h hs
  obtain ⟨-, h1, h2, h3, h4, h5⟩ := h
  obtain ⟨-, -, k7, -⟩ := h5 s hs
  simp only [m_X11_pass, q1, Option.bind_some, h2, hm.1, hm.2, gd_t, q2, q3, m_X9_passNumber, k7]
theorem ac_el {I : Mem} {m s e : Nat} {B : List As} (h : AcP I m B) (hs : s < B.length) (he : e < (B.getD s zA).2.length) : m_X11_needElement 0 (nI s) (nI e) I = some () ∧ m_X9_countIn (m + 8 + 3 * s) (nI e) I = some (nI ((B.getD s zA).2.getD e []).length) := by
  have hm := ac_msg h
  obtain ⟨q1, q2, q3⟩ := ac_seg h hs
  obtain ⟨-, h1, h2, h3, h4, h5⟩ := h
  obtain ⟨⟨k1, k2, k3, k4, k5⟩, -⟩ := h5 s hs
  have c0 : ¬ nI e < 0 := nI_pos (by omega)
  have c1 : nI e < nI (B.getD s zA).2.length := nI_lt he (by omega)
  refine ⟨?_, countIn_ok k3 he k5.1 (k5.2 e he).1⟩
  simp only [m_X11_needElement, q1, Option.bind_some, c0, if_false, h2, hm.1, hm.2, gd_t, q2, q3, m_X9_elementCount, k5.1, c1, if_true]
theorem contentLength_ok {I : Mem} {m s e : Nat} {B : List As} (h : AcP I m B) (hs : s < B.length) (he : e < (B.getD s zA).2.length) : m_X11_contentLength 0 (nI s) (nI e) I = some (nI ((B.getD s zA).2.getD e []).length) := by
  have hm := ac_msg h
  obtain ⟨q1, q2, q3⟩ := ac_seg h hs
  obtain ⟨r1, r2⟩ := ac_el h hs he
  simp only [m_X11_contentLength, r1, Option.bind_some, h.2.2.1, hm.1, hm.2, gd_t, q2, q3, r2]
theorem content_ok {I : Mem} {m s e x : Nat} {B : List As} (h : AcP I m B) (hs : s < B.length) (he : e < (B.getD s zA).2.length) (hx : x < ((B.getD s zA).2.getD e []).length) : m_X11_content 0 (nI s) (nI e) (nI x) I = some (nI (((B.getD s zA).2.getD e []).getD x 0)) := by
  have hm := ac_msg h
  obtain ⟨q1, q2, q3⟩ := ac_seg h hs
  obtain ⟨r1, r2⟩ := ac_el h hs he
  have h5 := (h.2.2.2.2.2 s hs).1
  obtain ⟨w8, wB⟩ := h5.el he
  obtain ⟨k1, k2, k3, k4, k5⟩ := h5
  have lb := wB.at hx
  have c0 : ¬ nI x < 0 := nI_pos (by omega)
  have c1 : nI x < nI ((B.getD s zA).2.getD e []).length := nI_lt hx (by omega)
  have l := letterIn_ok k3 he k5.1 (k5.2 e he).1 w8 hx ((k5.2 e he).2 x hx (by omega)) (by omega)
  have ok : okc (nI (((B.getD s zA).2.getD e []).getD x 0)) = true := okc_n' (by omega)
  simp only [m_X11_content, r1, Option.bind_some, c0, if_false, h.2.2.1, hm.1, hm.2, gd_t, q2, q3, r2, c1, if_true, l, ok]
/-! is it as it was fed? -/
theorem is_loop {n : Nat} {body : Int32 × Int32 → Option ((Int32 × Int32) ⊕ Int32)} (hn : n < 1000) (hb : ∀ x, x < n → body ((1 : Int32), nI x) = some (.inl ((1 : Int32), nI (x + 1)))) (he : body ((1 : Int32), nI n) = some (.inr 1)) : loopF body FU ((1 : Int32), (0 : Int32)) = some 1 := by
  obtain ⟨b, f1, f2⟩ := loop_run (body := body) (Inv := fun r a => ∃ x, x ≤ n ∧ r = n - x ∧ a = ((1 : Int32), nI x)) (Post := fun b => b = 1) (fun r a ⟨x, g1, g2, g3⟩ => by
    subst g3
    by_cases z : x = n
    · subst z
      exact Or.inl ⟨1, he, rfl⟩
    · exact Or.inr ⟨_, n - (x + 1), by omega, hb x (by omega), x + 1, by omega, rfl, rfl⟩) FU n ((1 : Int32), (0 : Int32)) (by unfold FU; omega) ⟨0, by omega, rfl, rfl⟩
  rw [f1, f2]
def acF (v k : Nat) : As := (65 + v % 3, (List.range (min (v / 4 % 6) 5)).map (fun e => (List.range (lenF v k e)).map (fun n => ltF (v / 7 + 11 * e + n))))
def acB (pv : Nat → Nat) (fm many : Nat) : List As := (List.range many).map (fun k => acF (pv (fm + k)) k)
theorem acB_len {pv : Nat → Nat} {fm many : Nat} : (acB pv fm many).length = many := by simp [acB]
theorem gr {α : Type} {n k : Nat} {f : Nat → α} {z : α} (h : k < n) : ((List.range n).map f).getD k z = f k := by
  rw [List.getD_eq_getElem?_getD]
  simp [h]
theorem acB_at {pv : Nat → Nat} {fm many k : Nat} (h : k < many) : (acB pv fm many).getD k zA = acF (pv (fm + k)) k := gr h
theorem asFedL {I : Mem} {m fm many k e : Nat} {Xs : Nat × (Nat → Int32)} {pv : Nat → Nat} {x7 : Int32} (hP : PV Xs pv) (h : AcP I m (acB pv fm many)) (hk : k < many) (hm4 : many ≤ 4) (hf : fm ≤ 100) (he : e < min (pv (fm + k) / 4 % 6) 5) :
    loopF (fun a => m_L_isAsFed_b165 0 Xs (nI fm) (nI many) (nI k) (nI (pv (fm + k))) x7 (nI e) a.1 a.2 I) FU ((1 : Int32), (0 : Int32)) = some 1 := by
  obtain ⟨hv, hp⟩ := hP (fm + k) (by omega)
  have hB := acB_at (pv := pv) (fm := fm) hk
  have hkl : k < (acB pv fm many).length := by rw [acB_len]; exact hk
  have h4 := lenF_le (v := pv (fm + k)) (k := k) (e := e)
  have hel : ((acB pv fm many).getD k zA).2.length = min (pv (fm + k) / 4 % 6) 5 := by rw [hB]; simp [acF]
  have hg : ((acB pv fm many).getD k zA).2.getD e [] = (List.range (lenF (pv (fm + k)) k e)).map (fun n => ltF (pv (fm + k) / 7 + 11 * e + n)) := by
    rw [hB]
    exact gr he
  have hgl : (((acB pv fm many).getD k zA).2.getD e []).length = lenF (pv (fm + k)) k e := by rw [hg]; simp
  have n10 : ¬ (1 : Int32) = 0 := by decide
  have d7 : nI (pv (fm + k)) / 7 = nI (pv (fm + k) / 7) := pk_div (d := 7) hv (by omega) (by omega)
  have h7 : pv (fm + k) / 7 < 2 ^ 29 := by omega
  have m11 : (11 : Int32) * nI e = nI (11 * e) := pk_mul 11 e
  have lo : ∀ I, m_L_lengthOf (nI (pv (fm + k))) (nI k) (nI e) I = some (nI (lenF (pv (fm + k)) k e)) := fun I => lenF_ok hv (by omega) (by omega)
  refine is_loop (n := lenF (pv (fm + k)) k e) (by omega) (fun x hx => ?_) ?_
  · have c : ¬ nI (lenF (pv (fm + k)) k e) ≤ nI x := nI_ge hx (by omega)
    have ct := content_ok (x := x) h hkl (by rw [hel]; exact he) (by rw [hgl]; exact hx)
    have e2 : (((acB pv fm many).getD k zA).2.getD e []).getD x 0 = ltF (pv (fm + k) / 7 + 11 * e + x) := by
      rw [hg]
      exact gr hx
    rw [e2] at ct
    have lt : ∀ I, m_L_letter (nI (pv (fm + k) / 7 + 11 * e + x)) I = some (nI (ltF (pv (fm + k) / 7 + 11 * e + x))) := fun I => ltF_ok (by omega)
    simp only [m_L_isAsFed_b165, lo, Option.bind_some, c, if_false, n10, ct, d7, m11, nI_add, lt, if_true, m_L_isAsFed_j219, nI_1]
  · have c : nI (lenF (pv (fm + k)) k e) ≤ nI (lenF (pv (fm + k)) k e) := nI_le (by omega) (by omega)
    simp only [m_L_isAsFed_b165, lo, Option.bind_some, c, if_true]
theorem asFedE {I : Mem} {m fm many k : Nat} {Xs : Nat × (Nat → Int32)} {pv : Nat → Nat} (hP : PV Xs pv) (h : AcP I m (acB pv fm many)) (hk : k < many) (hm4 : many ≤ 4) (hf : fm ≤ 100) :
    loopF (fun a => m_L_isAsFed_b123 0 Xs (nI fm) (nI many) (nI k) (nI (pv (fm + k))) (nI (min (pv (fm + k) / 4 % 6) 5)) a.1 a.2 I) FU ((1 : Int32), (0 : Int32)) = some 1 := by
  obtain ⟨hv, hp⟩ := hP (fm + k) (by omega)
  have hB := acB_at (pv := pv) (fm := fm) hk
  have hkl : k < (acB pv fm many).length := by rw [acB_len]; exact hk
  have hel : ((acB pv fm many).getD k zA).2.length = min (pv (fm + k) / 4 % 6) 5 := by rw [hB]; simp [acF]
  have n10 : ¬ (1 : Int32) = 0 := by decide
  refine is_loop (n := min (pv (fm + k) / 4 % 6) 5) (by omega) (fun x hx => ?_) ?_
  · have c : ¬ nI (min (pv (fm + k) / 4 % 6) 5) ≤ nI x := nI_ge hx (by omega)
    have cl := contentLength_ok (e := x) h hkl (by rw [hel]; exact hx)
    have hgl : (((acB pv fm many).getD k zA).2.getD x []).length = lenF (pv (fm + k)) k x := by
      rw [hB]
      show (((List.range _).map _).getD x []).length = _
      rw [gr hx]
      simp
    rw [hgl] at cl
    have lo : m_L_lengthOf (nI (pv (fm + k))) (nI k) (nI x) I = some (nI (lenF (pv (fm + k)) k x)) := lenF_ok hv (by omega) (by omega)
    simp only [m_L_isAsFed_b123, c, if_false, n10, cl, Option.bind_some, lo, if_true, m_L_isAsFed_j160, asFedL hP h hk hm4 hf hx, nI_1]
  · have c : nI (min (pv (fm + k) / 4 % 6) 5) ≤ nI (min (pv (fm + k) / 4 % 6) 5) := nI_le (by omega) (by omega)
    simp only [m_L_isAsFed_b123, c, if_true]
theorem asFed_ok {I : Mem} {m fm many : Nat} {Xs : Nat × (Nat → Int32)} {pv : Nat → Nat} (hP : PV Xs pv) (h : AcP I m (acB pv fm many)) (hm4 : many ≤ 4) (hf : fm ≤ 100) : m_L_isAsFed 0 Xs (nI fm) (nI many) I = some 1 := by
  have n10 : ¬ (1 : Int32) = 0 := by decide
  have sg := segments_ok h
  rw [acB_len] at sg
  have lp : loopF (fun a => m_L_isAsFed_b18 0 Xs (nI fm) (nI many) a.1 a.2 I) FU ((1 : Int32), (0 : Int32)) = some 1 := by
    refine is_loop (n := many) (by omega) (fun k hk => ?_) ?_
    · obtain ⟨hv, hp⟩ := hP (fm + k) (by omega)
      have hkl : k < (acB pv fm many).length := by rw [acB_len]; exact hk
      have hB := acB_at (pv := pv) (fm := fm) hk
      have c : ¬ nI many ≤ nI k := nI_ge hk (by omega)
      have d4 : nI (pv (fm + k)) / 4 = nI (pv (fm + k) / 4) := pk_div (d := 4) hv (by omega) (by omega)
      have r6 : nI (pv (fm + k) / 4) - nI (pv (fm + k) / 4) / 6 * 6 = nI (pv (fm + k) / 4 % 6) := rm (d := 6) (by omega) (by omega) (by omega)
      have r3 : nI (pv (fm + k)) - nI (pv (fm + k)) / 3 * 3 = nI (pv (fm + k) % 3) := rm (d := 3) hv (by omega) (by omega)
      have a65 : (65 : Int32) + nI (pv (fm + k) % 3) = nI (65 + pv (fm + k) % 3) := nI_add 65 _
      have t1 := tag_ok h hkl
      have t2 := elements_ok h hkl
      have t3 := item_ok h hkl
      have t4 := pass_ok h hkl
      have p1 := (h.2.2.2.2.2 k hkl).2.2.2
      rw [hB] at t1 t2 t3
      have f1 : (acF (pv (fm + k)) k).1 = 65 + pv (fm + k) % 3 := rfl
      have f2 : (acF (pv (fm + k)) k).2.length = min (pv (fm + k) / 4 % 6) 5 := by simp [acF]
      rw [f1] at t1 t3
      rw [f2] at t2
      rw [show 65 + pv (fm + k) % 3 - 65 = pv (fm + k) % 3 by omega] at t3
      have pl : PS (tgs (acB pv fm many)) k < 10 := Nat.mod_lt _ (by omega)
      have c1 : ¬ nI (PS (tgs (acB pv fm many)) k) < 1 := nI_nlt (b := 1) p1 (by omega)
      have j61 : m_L_isAsFed_j61 0 Xs (nI fm) (nI many) (nI k) (nI (pv (fm + k))) (nI (min (pv (fm + k) / 4 % 6) 5)) I = some (.inl ((1 : Int32), nI (k + 1))) := by
        simp only [m_L_isAsFed_j61, t1, Option.bind_some, r3, a65, if_true, t2, t3, t4, c1, if_false, m_L_isAsFed_j118, asFedE hP h hk hm4 hf, nI_1]
      simp only [m_L_isAsFed_b18, c, if_false, n10, nI_add, hp, Option.bind_some, d4, r6]
      by_cases z : 5 ≤ pv (fm + k) / 4 % 6
      · have z' : (5 : Int32) ≤ nI (pv (fm + k) / 4 % 6) := nI_le (a := 5) z (by omega)
        rw [if_pos z']
        rw [show min (pv (fm + k) / 4 % 6) 5 = 5 by omega] at j61
        exact j61
      · have z' : ¬ (5 : Int32) ≤ nI (pv (fm + k) / 4 % 6) := nI_ge (b := 5) (by omega) (by omega)
        rw [if_neg z']
        rw [show min (pv (fm + k) / 4 % 6) 5 = pv (fm + k) / 4 % 6 by omega] at j61
        exact j61
    · have c : nI many ≤ nI many := nI_le (by omega) (by omega)
      simp only [m_L_isAsFed_b18, c, if_true]
  have ok : okz 1 = true := by decide
  simp only [m_L_isAsFed, sg, Option.bind_some, if_true, m_L_isAsFed_j13, lp, ok, gd_t]
