theorem io_msg {m d : Nat} (h : (m = 62 ∧ d = 127) ∨ (m = 127 ∧ d = 62)) : iO m 4 = true := by
  rcases h with ⟨rfl, -⟩ | ⟨rfl, -⟩ <;> decide +kernel
theorem io_row : ∀ i, i < 20 → iO (67 + 3 * i) 9 = true ∧ iO (132 + 3 * i) 9 = true := by
  have h : ∀ i : Fin 20, iO (67 + 3 * i.val) 9 = true ∧ iO (132 + 3 * i.val) 9 = true := by decide +kernel
  exact fun i hi => h ⟨i, hi⟩
theorem io_seg {m d s : Nat} (h : (m = 62 ∧ d = 127) ∨ (m = 127 ∧ d = 62)) (hs : s < 18) : iO (m + 8 + 3 * s) 9 = true := by
  have := io_row (s + 1) (by omega)
  rcases h with ⟨rfl, -⟩ | ⟨rfl, -⟩
  · rw [show 62 + 8 + 3 * s = 67 + 3 * (s + 1) by omega]; exact this.1
  · rw [show 127 + 8 + 3 * s = 132 + 3 * (s + 1) by omega]; exact this.2
theorem two_le {n : Nat} (h : n < 1000) : (2 : Int32) ≤ nI (n + 2) := nI_le (a := 2) (by omega) (by omega)
theorem sub_two (n : Nat) : nI (n + 2) - 2 = nI n := pk_sub (a := n + 2) (b := 2) (by omega)
theorem bC {I : Mem} {m nb : Nat} (hn : nb ≤ 18) (h : I m 2 = nI (nb + 2)) : m_X4_bodyCount m I = some (nI nb) := by
  simp [m_X4_bodyCount, h, two_le (n := nb) (by omega), sub_two]
theorem bA {I : Mem} {m d nb s : Nat} (hm : (m = 62 ∧ d = 127) ∨ (m = 127 ∧ d = 62)) (hn : nb ≤ 18) (h : I m 2 = nI (nb + 2)) (hs : s < nb) : m_X4_bodyAt m (nI s) I = some (m + 8 + 3 * s) := by
  have e1 : ¬ nI s < 0 := nI_pos (by omega)
  have e2 : ¬ nI nb ≤ nI s := nI_ge hs (by omega)
  have e3 : ¬ nI (s + 1) < 0 := nI_pos (by omega)
  have e4 : ¬ nI (nb + 2) ≤ nI (s + 1) := nI_ge (by omega) (by omega)
  have e5 : inb (nI (s + 1)) 20 = true := inb_n (by omega) (by omega)
  have e6 : (nI (s + 1)).toNatClampNeg = s + 1 := nI_clamp (by omega)
  have e7 : m + 1 + (4 + 3 * (s + 1)) = m + 8 + 3 * s := by omega
  have e8 := io_seg hm (show s < 18 by omega)
  simp [m_X4_bodyAt, e1, bC hn h, e2, m_X4_at, nI_1, e3, h, e4, e5, e6, gd_t, e7, e8]
def Agr (I J : Mem) : Prop := ∀ a b, a ≠ 230 → J a b = I a b
theorem Agr.out (I : Mem) (j : Nat) (v : Int32) : Agr I (ms I 230 j v) := fun a b h => ms_o (by omega)
theorem needSeg {I : Mem} (hI : Inv I) (p : Int32) : (m_X11_needSegment 0 p I = some (.inr 1, I) ∧ ∀ J, Agr I J → m_X12_wrong 196 p J = some 1) ∨ (m_X11_needSegment 0 p I = some (.inr 2, I) ∧ ∀ J, Agr I J → m_X12_wrong 196 p J = some 2) ∨
    ∃ m d nb s, s < nb ∧ p = nI s ∧ ((m = 62 ∧ d = 127) ∨ (m = 127 ∧ d = 62)) ∧ I 0 5 = nI m ∧ BodP I m nb ∧ m_X11_needSegment 0 p I = some (.inl (), I) ∧ ∀ J, Agr I J → m_X12_wrong 196 p J = some 0 := by
  obtain ⟨m, d, hm, h1, h2, ha, h3, h4, h5⟩ := hI.2.2.2.2.2.1
  cases ha with
  | false =>
    rw [bz_f] at h3 h4
    exact Or.inl ⟨by simp [m_X11_needSegment, m_X11_needMessage, h3, obx], fun J hJ => by simp [m_X12_wrong, hJ 196 23 (by omega), h4]⟩
  | true =>
    rw [bz_t] at h3 h4
    obtain ⟨nb, hb⟩ := h5 rfl
    obtain ⟨b1, b2, b3, b4⟩ := hb
    have e1 : (nI m).toNatClampNeg = m := nI_clamp (by omega)
    have e2 := io_msg hm
    rcases ix_or p (n := nb) (by omega) with c | ⟨c0, c1, c2, c3⟩ | ⟨s, hs, rfl, c0, c1, c2, c3⟩
    · exact Or.inr (Or.inl ⟨by simp [m_X11_needSegment, m_X11_needMessage, h3, obx, m_X11_needSegment_j4, m_X11_needSegment_j19, c], fun J hJ => by simp [m_X12_wrong, hJ 196 23 (by omega), h4, m_X12_in, c]⟩)
    · exact Or.inr (Or.inl ⟨by simp [m_X11_needSegment, m_X11_needMessage, h3, obx, m_X11_needSegment_j4, m_X11_needSegment_j19, c0, h1, e1, e2, gd_t, bC b1 b2, c2], fun J hJ => by simp [m_X12_wrong, hJ 196 23 (by omega), h4, m_X12_in, c0, hJ 196 32 (by omega), b3, c3]⟩)
    · exact Or.inr (Or.inr ⟨m, d, nb, s, hs, rfl, hm, h1, ⟨b1, b2, b3, b4⟩, by simp [m_X11_needSegment, m_X11_needMessage, h3, obx, m_X11_needSegment_j4, c0, h1, e1, e2, gd_t, bC b1 b2, c2], fun J hJ => by simp [m_X12_wrong, hJ 196 23 (by omega), h4, m_X12_in, c0, hJ 196 32 (by omega), b3, c3]⟩)
theorem op_segments {I : Mem} (hI : Inv I) : OKc (caseA (wrE hv_segments (m_X11_segments 0 I)) (fun I => m_X12_segments 196 I)) := by
  obtain ⟨m, d, hm, h1, h2, ha, h3, h4, h5⟩ := hI.2.2.2.2.2.1
  cases ha with
  | false =>
    rw [bz_f] at h3 h4
    exact opA_ex (c := 1) (k := 1) (I1 := I) (I2 := ms I 196 48 1) (v := 0) (by simp [m_X11_segments, m_X11_needMessage, h3, obx]) rfl (by decide) (by simp [m_X12_segments, h4, m_X12_segments_j13, m_X12_isFine, bnd]) (ms_s rfl rfl) hI.thr
  | true =>
    rw [bz_t] at h3 h4
    obtain ⟨nb, hb⟩ := h5 rfl
    obtain ⟨b1, b2, b3, b4⟩ := hb
    have e1 : (nI m).toNatClampNeg = m := nI_clamp (by omega)
    have e2 := io_msg hm
    exact opA_ok (v := nI nb) (I1 := I) (I2 := ms (ms I 230 0 (nI nb)) 196 48 0) (by simp [m_X11_segments, m_X11_needMessage, h3, obx, m_X11_segments_j4, h1, e1, e2, gd_t, bC b1 b2]) (by simp [m_X12_segments, ms_app, h4, m_X12_segments_j13, m_X12_isFine, bnd, b3]) (ms_s rfl rfl) (by simp [ms_app]) hI.out.thr
theorem op_tag {I : Mem} (hI : Inv I) (p : Int32) : OKc (caseA (wrE hv_tag (m_X11_tag 0 p I)) (fun I => m_X12_tag 196 p I)) := by
  rcases needSeg hI p with ⟨q1, q2⟩ | ⟨q1, q2⟩ | ⟨m, d, nb, s, hs, rfl, hm, h1, ⟨b1, b2, b3, b4⟩, q1, q2⟩
  · exact opA_ex (c := 1) (k := 1) (I1 := I) (I2 := ms I 196 48 1) (v := 0) (by simp [m_X11_tag, q1, obx]) rfl (by decide) (by simp [m_X12_tag, q2 I (fun _ _ _ => rfl), m_X12_isFine, bnd]) (ms_s rfl rfl) hI.thr
  · exact opA_ex (c := 2) (k := 2) (I1 := I) (I2 := ms I 196 48 2) (v := 0) (by simp [m_X11_tag, q1, obx]) rfl (by decide) (by simp [m_X12_tag, q2 I (fun _ _ _ => rfl), m_X12_isFine, bnd]) (ms_s rfl rfl) hI.thr
  · have e1 : (nI m).toNatClampNeg = m := nI_clamp (by omega)
    have e2 := io_msg hm
    have e3 := io_seg hm (show s < 18 by omega)
    have e4 : (nI s).toNatClampNeg = s := nI_clamp (by omega)
    have e5 : inb (nI s) 20 = true := inb_n (by omega) (by omega)
    obtain ⟨c1, c2, c3, c4, c, c5, c6, c7, c8⟩ := b4 s hs
    have c1' : okc (I (m + 8 + 3 * s) 3) = true := by rw [c1]; exact c2
    exact opA_ok (v := I 214 s) (I1 := I) (I2 := ms (ms I 230 0 (I 214 s)) 196 48 0) (by simp [m_X11_tag, q1, obx, m_X11_tag_j5, h1, e1, e2, gd_t, bA hm b1 b2 hs, e3, m_X9_mark, c1, c2]) (by simp [m_X12_tag, q2 _ (Agr.out _ _ _), m_X12_isFine, bnd, ms_app, e5, gd_t, e4, c2]) (ms_s rfl rfl) (by simp [ms_app]) hI.out.thr
theorem op_elements {I : Mem} (hI : Inv I) (p : Int32) : OKc (caseA (wrE hv_elements (m_X11_elements 0 p I)) (fun I => m_X12_elements 196 p I)) := by
  rcases needSeg hI p with ⟨q1, q2⟩ | ⟨q1, q2⟩ | ⟨m, d, nb, s, hs, rfl, hm, h1, ⟨b1, b2, b3, b4⟩, q1, q2⟩
  · exact opA_ex (c := 1) (k := 1) (I1 := I) (I2 := ms I 196 48 1) (v := 0) (by simp [m_X11_elements, q1, obx]) rfl (by decide) (by simp [m_X12_elements, q2 I (fun _ _ _ => rfl), m_X12_isFine, bnd]) (ms_s rfl rfl) hI.thr
  · exact opA_ex (c := 2) (k := 2) (I1 := I) (I2 := ms I 196 48 2) (v := 0) (by simp [m_X11_elements, q1, obx]) rfl (by decide) (by simp [m_X12_elements, q2 I (fun _ _ _ => rfl), m_X12_isFine, bnd]) (ms_s rfl rfl) hI.thr
  · have e1 : (nI m).toNatClampNeg = m := nI_clamp (by omega)
    have e2 := io_msg hm
    have e3 := io_seg hm (show s < 18 by omega)
    have e4 : (nI s).toNatClampNeg = s := nI_clamp (by omega)
    have e5 : inb (nI s) 20 = true := inb_n (by omega) (by omega)
    obtain ⟨c1, c2, c3, c4, c, c5, c6, c7, c8⟩ := b4 s hs
    exact opA_ok (v := nI c) (I1 := I) (I2 := ms (ms I 230 0 (nI c)) 196 48 0) (by simp [m_X11_elements, q1, obx, m_X11_elements_j5, h1, e1, e2, gd_t, bA hm b1 b2 hs, e3, m_X9_elementCount, c6]) (by simp [m_X12_elements, q2 _ (Agr.out _ _ _), m_X12_isFine, bnd, ms_app, e5, gd_t, e4, c7]) (ms_s rfl rfl) (by simp [ms_app]) hI.out.thr
theorem op_item {I : Mem} (hI : Inv I) (p : Int32) : OKc (caseA (wrE hv_item (m_X11_item 0 p I)) (fun I => m_X12_item 196 p I)) := by
  rcases needSeg hI p with ⟨q1, q2⟩ | ⟨q1, q2⟩ | ⟨m, d, nb, s, hs, rfl, hm, h1, ⟨b1, b2, b3, b4⟩, q1, q2⟩
  · exact opA_ex (c := 1) (k := 1) (I1 := I) (I2 := ms I 196 48 1) (v := 0) (by simp [m_X11_item, q1, obx]) rfl (by decide) (by simp [m_X12_item, q2 I (fun _ _ _ => rfl), m_X12_isFine, bnd]) (ms_s rfl rfl) hI.thr
  · exact opA_ex (c := 2) (k := 2) (I1 := I) (I2 := ms I 196 48 2) (v := 0) (by simp [m_X11_item, q1, obx]) rfl (by decide) (by simp [m_X12_item, q2 I (fun _ _ _ => rfl), m_X12_isFine, bnd]) (ms_s rfl rfl) hI.thr
  · have e1 : (nI m).toNatClampNeg = m := nI_clamp (by omega)
    have e2 := io_msg hm
    have e3 := io_seg hm (show s < 18 by omega)
    have e4 : (nI s).toNatClampNeg = s := nI_clamp (by omega)
    have e5 : inb (nI s) 20 = true := inb_n (by omega) (by omega)
    obtain ⟨c1, c2, c3, c4, c, c5, c6, c7, c8⟩ := b4 s hs
    exact opA_ok (v := I 218 s) (I1 := I) (I2 := ms (ms I 230 0 (I 218 s)) 196 48 0) (by simp [m_X11_item, q1, obx, m_X11_item_j5, h1, e1, e2, gd_t, bA hm b1 b2 hs, e3, m_X9_itemNumber, c3]) (by simp [m_X12_item, q2 _ (Agr.out _ _ _), m_X12_isFine, bnd, ms_app, e5, gd_t, e4]) (ms_s rfl rfl) (by simp [ms_app]) hI.out.thr
theorem op_pass {I : Mem} (hI : Inv I) (p : Int32) : OKc (caseA (wrE hv_pass (m_X11_pass 0 p I)) (fun I => m_X12_pass 196 p I)) := by
  rcases needSeg hI p with ⟨q1, q2⟩ | ⟨q1, q2⟩ | ⟨m, d, nb, s, hs, rfl, hm, h1, ⟨b1, b2, b3, b4⟩, q1, q2⟩
  · exact opA_ex (c := 1) (k := 1) (I1 := I) (I2 := ms I 196 48 1) (v := 0) (by simp [m_X11_pass, q1, obx]) rfl (by decide) (by simp [m_X12_pass, q2 I (fun _ _ _ => rfl), m_X12_isFine, bnd]) (ms_s rfl rfl) hI.thr
  · exact opA_ex (c := 2) (k := 2) (I1 := I) (I2 := ms I 196 48 2) (v := 0) (by simp [m_X11_pass, q1, obx]) rfl (by decide) (by simp [m_X12_pass, q2 I (fun _ _ _ => rfl), m_X12_isFine, bnd]) (ms_s rfl rfl) hI.thr
  · have e1 : (nI m).toNatClampNeg = m := nI_clamp (by omega)
    have e2 := io_msg hm
    have e3 := io_seg hm (show s < 18 by omega)
    have e4 : (nI s).toNatClampNeg = s := nI_clamp (by omega)
    have e5 : inb (nI s) 20 = true := inb_n (by omega) (by omega)
    obtain ⟨c1, c2, c3, c4, c, c5, c6, c7, c8⟩ := b4 s hs
    exact opA_ok (v := I 219 s) (I1 := I) (I2 := ms (ms I 230 0 (I 219 s)) 196 48 0) (by simp [m_X11_pass, q1, obx, m_X11_pass_j5, h1, e1, e2, gd_t, bA hm b1 b2 hs, e3, m_X9_passNumber, c4]) (by simp [m_X12_pass, q2 _ (Agr.out _ _ _), m_X12_isFine, bnd, ms_app, e5, gd_t, e4]) (ms_s rfl rfl) (by simp [ms_app]) hI.out.thr
/-- an element of a segment -/
theorem needEl {I : Mem} (hI : Inv I) (p p2 : Int32) : (m_X11_needElement 0 p p2 I = some (.inr 1, I) ∧ ∀ J, Agr I J → m_X12_wrongElement 196 p p2 J = some 1) ∨ (m_X11_needElement 0 p p2 I = some (.inr 2, I) ∧ ∀ J, Agr I J → m_X12_wrongElement 196 p p2 J = some 2) ∨
    ∃ m d nb s c e l, s < nb ∧ e < c ∧ c ≤ 5 ∧ l ≤ 8 ∧ p = nI s ∧ p2 = nI e ∧ ((m = 62 ∧ d = 127) ∨ (m = 127 ∧ d = 62)) ∧ I 0 5 = nI m ∧ BodP I m nb ∧ I (m + 8 + 3 * s) 4 = nI c ∧ I (m + 10 + 3 * s) e = nI l ∧ I 216 (5 * s + e) = nI l ∧
      (∀ x, x < l → ∃ q, 32 ≤ q ∧ q ≤ 126 ∧ I (m + 9 + 3 * s) (8 * e + x) = nI q ∧ I 217 (8 * (5 * s + e) + x) = nI q) ∧ m_X11_needElement 0 p p2 I = some (.inl (), I) ∧ ∀ J, Agr I J → m_X12_wrongElement 196 p p2 J = some 0 := by
  rcases needSeg hI p with ⟨q1, q2⟩ | ⟨q1, q2⟩ | ⟨m, d, nb, s, hs, rfl, hm, h1, ⟨b1, b2, b3, b4⟩, q1, q2⟩
  · exact Or.inl ⟨by simp [m_X11_needElement, q1, obx], fun J hJ => by simp [m_X12_wrongElement, q2 J hJ]⟩
  · exact Or.inr (Or.inl ⟨by simp [m_X11_needElement, q1, obx], fun J hJ => by simp [m_X12_wrongElement, q2 J hJ]⟩)
  · have e1 : (nI m).toNatClampNeg = m := nI_clamp (by omega)
    have e2 := io_msg hm
    have e3 := io_seg hm (show s < 18 by omega)
    have e4 : (nI s).toNatClampNeg = s := nI_clamp (by omega)
    have e5 : inb (nI s) 20 = true := inb_n (by omega) (by omega)
    obtain ⟨c1, c2, c3, c4, c, c5, c6, c7, c8⟩ := b4 s hs
    rcases ix_or p2 (n := c) (by omega) with z | ⟨z0, z1, z2, z3⟩ | ⟨e, he, rfl, z0, z1, z2, z3⟩
    · exact Or.inr (Or.inl ⟨by simp [m_X11_needElement, q1, obx, m_X11_needElement_j5, m_X11_needElement_j24, z], fun J hJ => by simp [m_X12_wrongElement, q2 J hJ, e5, gd_t, m_X12_in, z]⟩)
    · exact Or.inr (Or.inl ⟨by simp [m_X11_needElement, q1, obx, m_X11_needElement_j5, m_X11_needElement_j24, z0, h1, e1, e2, gd_t, bA hm b1 b2 hs, e3, m_X9_elementCount, c6, z2], fun J hJ => by simp [m_X12_wrongElement, q2 J hJ, e5, gd_t, m_X12_in, z0, e4, hJ 215 s (by omega), c7, z3]⟩)
    · obtain ⟨l, a1, a2, a3, a4⟩ := c8 e he
      exact Or.inr (Or.inr ⟨m, d, nb, s, c, e, l, hs, he, c5, a1, rfl, rfl, hm, h1, ⟨b1, b2, b3, b4⟩, c6, a2, a3, a4, by simp [m_X11_needElement, q1, obx, m_X11_needElement_j5, z0, h1, e1, e2, gd_t, bA hm b1 b2 hs, e3, m_X9_elementCount, c6, z2], fun J hJ => by simp [m_X12_wrongElement, q2 J hJ, e5, gd_t, m_X12_in, z0, e4, hJ 215 s (by omega), c7, z3]⟩)
theorem ix5 {s e : Nat} (hs : s < 20) (he : e < 5) : (5 : Int32) * nI s + nI e = nI (5 * s + e) ∧ inb (nI (5 * s + e)) 100 = true ∧ (nI (5 * s + e)).toNatClampNeg = 5 * s + e := by
  refine ⟨?_, inb_n (by omega) (by omega), nI_clamp (by omega)⟩
  have : (5 : Int32) * nI s = nI (5 * s) := pk_mul 5 s
  rw [this, nI_add]
theorem ix8 {a x : Nat} (ha : a < 100) (hx : x < 8) : (8 : Int32) * nI a + nI x = nI (8 * a + x) ∧ inb (nI (8 * a + x)) 800 = true ∧ (nI (8 * a + x)).toNatClampNeg = 8 * a + x := by
  refine ⟨?_, inb_n (by omega) (by omega), nI_clamp (by omega)⟩
  have : (8 : Int32) * nI a = nI (8 * a) := pk_mul 8 a
  rw [this, nI_add]
/-- the class's countIn and letterIn of a segment at the object g -/
theorem countIn_ok {I : Mem} {g c e l : Nat} (hc : c ≤ 5) (he : e < c) (h1 : I g 4 = nI c) (h2 : I (g + 2) e = nI l) : m_X9_countIn g (nI e) I = some (nI l) := by
  have z0 : ¬ nI e < 0 := nI_pos (by omega)
  have z1 : ¬ nI c ≤ nI e := nI_ge he (by omega)
  have z2 : inb (nI e) 5 = true := inb_n (by omega) (by omega)
  have z3 : (nI e).toNatClampNeg = e := nI_clamp (by omega)
  simp [m_X9_countIn, z0, h1, z1, z2, z3, gd_t, h2]
theorem letterIn_ok {I : Mem} {g c e l x q : Nat} (hc : c ≤ 5) (he : e < c) (h1 : I g 4 = nI c) (h2 : I (g + 2) e = nI l) (hl : l ≤ 8) (hx : x < l) (h3 : I (g + 1) (8 * e + x) = nI q) (hq : q < 65536) : m_X9_letterIn g (nI e) (nI x) I = some (nI q) := by
  have z0 : ¬ nI x < 0 := nI_pos (by omega)
  have z1 : ¬ nI l ≤ nI x := nI_ge hx (by omega)
  have z2 : ¬ 8 ≤ nI x := nI_ge (b := 8) (by omega) (by omega)
  have z3 : nI e * 8 + nI x = nI (8 * e + x) := by
    have : nI e * 8 = nI (e * 8) := pk_mul e 8
    rw [this, nI_add, Nat.mul_comm]
  have z4 : inb (nI (8 * e + x)) 40 = true := inb_n (by omega) (by omega)
  have z5 : (nI (8 * e + x)).toNatClampNeg = 8 * e + x := nI_clamp (by omega)
  have z6 : okc (nI q) = true := okc_n' hq
  simp [m_X9_letterIn, z0, countIn_ok hc he h1 h2, z1, z2, m_X9_letterIn_j24, z3, z4, z5, gd_t, h3, z6]
theorem op_contentLength {I : Mem} (hI : Inv I) (p p2 : Int32) : OKc (caseA (wrE hv_contentLength (m_X11_contentLength 0 p p2 I)) (fun I => m_X12_contentLength 196 p p2 I)) := by
  rcases needEl hI p p2 with ⟨q1, q2⟩ | ⟨q1, q2⟩ | ⟨m, d, nb, s, c, e, l, hs, he, hc, hl, rfl, rfl, hm, h1, ⟨b1, b2, b3, b4⟩, h4, h5, h6, h7, q1, q2⟩
  · exact opA_ex (c := 1) (k := 1) (I1 := I) (I2 := ms I 196 48 1) (v := 0) (by simp [m_X11_contentLength, q1, obx]) rfl (by decide) (by simp [m_X12_contentLength, q2 I (fun _ _ _ => rfl), m_X12_isFine, bnd]) (ms_s rfl rfl) hI.thr
  · exact opA_ex (c := 2) (k := 2) (I1 := I) (I2 := ms I 196 48 2) (v := 0) (by simp [m_X11_contentLength, q1, obx]) rfl (by decide) (by simp [m_X12_contentLength, q2 I (fun _ _ _ => rfl), m_X12_isFine, bnd]) (ms_s rfl rfl) hI.thr
  · have e1 : (nI m).toNatClampNeg = m := nI_clamp (by omega)
    have e2 := io_msg hm
    have e3 := io_seg hm (show s < 18 by omega)
    obtain ⟨x1, x2, x3⟩ := ix5 (s := s) (e := e) (by omega) (by omega)
    have y := countIn_ok hc he h4 (show I (m + 8 + 3 * s + 2) e = nI l by rw [show m + 8 + 3 * s + 2 = m + 10 + 3 * s by omega]; exact h5)
    exact opA_ok (v := nI l) (I1 := I) (I2 := ms (ms I 230 0 (nI l)) 196 48 0) (by simp [m_X11_contentLength, q1, obx, m_X11_contentLength_j6, h1, e1, e2, gd_t, bA hm b1 b2 hs, e3, y]) (by simp [m_X12_contentLength, q2 _ (Agr.out _ _ _), m_X12_isFine, bnd, ms_app, x1, x2, x3, gd_t, h6]) (ms_s rfl rfl) (by simp [ms_app]) hI.out.thr
theorem op_content {I : Mem} (hI : Inv I) (p p2 p3 : Int32) : OKc (caseA (wrE hv_content (m_X11_content 0 p p2 p3 I)) (fun I => m_X12_content 196 p p2 p3 I)) := by
  rcases needEl hI p p2 with ⟨q1, q2⟩ | ⟨q1, q2⟩ | ⟨m, d, nb, s, c, e, l, hs, he, hc, hl, rfl, rfl, hm, h1, ⟨b1, b2, b3, b4⟩, h4, h5, h6, h7, q1, q2⟩
  · exact opA_ex (c := 1) (k := 1) (I1 := I) (I2 := ms I 196 48 1) (v := 0) (by simp [m_X11_content, q1, obx]) rfl (by decide) (by simp [m_X12_content, q2 I (fun _ _ _ => rfl), m_X12_content_j36, m_X12_isFine, bnd]) (ms_s rfl rfl) hI.thr
  · exact opA_ex (c := 2) (k := 2) (I1 := I) (I2 := ms I 196 48 2) (v := 0) (by simp [m_X11_content, q1, obx]) rfl (by decide) (by simp [m_X12_content, q2 I (fun _ _ _ => rfl), m_X12_content_j36, m_X12_isFine, bnd]) (ms_s rfl rfl) hI.thr
  · have e1 : (nI m).toNatClampNeg = m := nI_clamp (by omega)
    have e2 := io_msg hm
    have e3 := io_seg hm (show s < 18 by omega)
    obtain ⟨x1, x2, x3⟩ := ix5 (s := s) (e := e) (by omega) (by omega)
    have h5' : I (m + 8 + 3 * s + 2) e = nI l := by rw [show m + 8 + 3 * s + 2 = m + 10 + 3 * s by omega]; exact h5
    have y := countIn_ok hc he h4 h5'
    rcases ix_or p3 (n := l) (by omega) with z | ⟨z0, z1, z2, z3⟩ | ⟨x, hx, rfl, z0, z1, z2, z3⟩
    · exact opA_ex (c := 2) (k := 2) (I1 := I) (I2 := ms I 196 48 2) (v := 0) (by simp [m_X11_content, q1, obx, m_X11_content_j6, z, m_X11_content_j26]) rfl (by decide) (by simp [m_X12_content, q2 I (fun _ _ _ => rfl), x1, x2, x3, gd_t, m_X12_in, z, m_X12_content_j36, m_X12_isFine, bnd]) (ms_s rfl rfl) hI.thr
    · exact opA_ex (c := 2) (k := 2) (I1 := I) (I2 := ms I 196 48 2) (v := 0) (by simp [m_X11_content, q1, obx, m_X11_content_j6, z0, m_X11_content_j26, h1, e1, e2, gd_t, bA hm b1 b2 hs, e3, y, z2]) rfl (by decide) (by simp [m_X12_content, q2 I (fun _ _ _ => rfl), x1, x2, x3, gd_t, m_X12_in, z0, h6, z3, m_X12_content_j36, m_X12_isFine, bnd]) (ms_s rfl rfl) hI.thr
    · obtain ⟨q, r1, r2, r3, r4⟩ := h7 x hx
      obtain ⟨y1, y2, y3⟩ := ix8 (a := 5 * s + e) (x := x) (by omega) (by omega)
      have w := letterIn_ok (q := q) hc he h4 h5' hl hx (by rw [show m + 8 + 3 * s + 1 = m + 9 + 3 * s by omega]; exact r3) (by omega)
      have v := okc_n' (show q < 65536 by omega)
      exact opA_ok (v := nI q) (I1 := I) (I2 := ms (ms I 230 0 (nI q)) 196 48 0) (by simp [m_X11_content, q1, obx, m_X11_content_j6, z0, h1, e1, e2, gd_t, bA hm b1 b2 hs, e3, y, z2, w, v]) (by simp [m_X12_content, q2 _ (Agr.out _ _ _), x1, x2, x3, gd_t, m_X12_in, z0, ms_app, h6, z3, m_X12_content_j36, m_X12_isFine, bnd, y1, y2, y3, r4, v]) (ms_s rfl rfl) (by simp [ms_app]) hI.out.thr
