/-! what was written is read again -/
theorem tk_s {L : List Nat} {x : Nat} (h : x < L.length) : L.take (x + 1) = L.take x ++ [L.getD x 0] := by
  rw [List.take_succ, List.getD_eq_getElem?_getD, List.getElem?_eq_getElem h]
  rfl
theorem again_feed {Io Ip : Mem} {u v k : Nat} {L : List Nat} {p3 : Int32} (hO : Oz Io u v k) (hU : OuT Io u L) (hT : TxL Ip []) : ∃ J, loopF (fun a => m_L_isReadAgain_b2 p3 a.1 a.2) FU ((0 : Int32), ((Io, Ip) : Mem2)) = some (Io, J) ∧ TxL J L ∧ FrT Ip J := by
  have wr := written_ok hO hU
  have h3 := hU.1
  obtain ⟨b, f1, J, f2, f3, f4⟩ := loop_run (body := fun a => m_L_isReadAgain_b2 p3 a.1 a.2)
    (Inv := fun r a => ∃ x J, x ≤ L.length ∧ r = L.length - x ∧ a = (nI x, ((Io, J) : Mem2)) ∧ TxL J (L.take x) ∧ FrT Ip J) (Post := fun b => ∃ J, b = (Io, J) ∧ TxL J L ∧ FrT Ip J) (fun r a ⟨x, J, g1, g2, g3, g4, g5⟩ => by
      subst g3
      by_cases z : x = L.length
      · subst z
        have c : nI L.length ≤ nI L.length := nI_le (by omega) (by omega)
        rw [List.take_length] at g4
        exact Or.inl ⟨(Io, J), by simp only [m_L_isReadAgain_b2, wr, Option.bind_some, c, if_true], J, rfl, g4, g5⟩
      · have hx : x < L.length := by omega
        have c : ¬ nI L.length ≤ nI x := nI_ge hx (by omega)
        have lt := letter_ok hO hU hx
        have lb := hU.2.2 x hx
        have hlen : (L.take x).length = x := by rw [List.length_take]; omega
        obtain ⟨J', a1, a2, a3⟩ := feed_ok (c := L.getD x 0) g4 (by omega) lb.1 lb.2.1
        rw [← tk_s hx] at a2
        exact Or.inr ⟨(nI (x + 1), ((Io, J') : Mem2)), L.length - (x + 1), by omega, by simp only [m_L_isReadAgain_b2, wr, Option.bind_some, c, if_false, lt, a1, nI_1], x + 1, J', by omega, rfl, rfl, a2, g5.tr a3⟩) FU L.length ((0 : Int32), ((Io, Ip) : Mem2)) (by unfold FU; omega) ⟨0, Ip, by omega, rfl, rfl, hT, FrT.rf⟩
  exact ⟨J, by rw [f1, f2], f3, f4⟩
def agS (f : Nat) (s : As) : As := (s.1, (List.range f).map (fun x => s.2.getD x []))
theorem tgC_1 {c : Nat} (h : T3 c) : tgC [c] = c ∧ okt [c] = true := by
  have : okt [c] = true := by
    unfold okt
    exact decide_eq_true ⟨h.1, by have := h.2; omega⟩
  refine ⟨?_, this⟩
  unfold tgC
  rw [if_pos this]
  rfl
theorem as_ws {f : Nat} {s : As} (h : T3 s.1) : asO (wsg f s) = agS f s := by
  unfold asO wsg agS
  have e : lts [(false, s.1)] = [s.1] := rfl
  rw [e, (tgC_1 h).1, List.map_map]
  congr 1
  refine List.map_congr_left fun x _ => ?_
  exact lts_rel _
theorem SgO_ws {I : Mem} {g f : Nat} {s : As} (h : AcS I g s) (hf : f ≤ 5) : SgO (wsg f s) := by
  obtain ⟨k1, k2, k3, k4, k5⟩ := h
  have hT := k2.1
  have hT2 := k2.2
  refine ⟨fun k hk => ?_, (tgC_1 k2).2, by simp [wsg]; exact hf, fun K hK => ?_, fun K hK => ?_⟩
  · have : k = (false, s.1) := by simpa [wsg] using hk
    subst this
    simp only [true_implies]
    omega
  · obtain ⟨x, hx, rfl⟩ := List.mem_map.mp hK
    intro k hk
    obtain ⟨q, hq, rfl⟩ := List.mem_map.mp hk
    have hb : 32 ≤ q ∧ q ≤ 126 := by
      by_cases he : x < s.2.length
      · refine (k4 (s.2.getD x []) ?_).2 q hq
        rw [List.getD_eq_getElem?_getD, List.getElem?_eq_getElem he]
        exact List.getElem_mem he
      · rw [List.getD_eq_getElem?_getD, List.getElem?_eq_none (by omega)] at hq
        simp at hq
    refine ⟨hb.1, hb.2, fun h => ?_⟩
    have h2 := of_decide_eq_false h
    show q ≠ 63 ∧ q ≠ 43 ∧ q ≠ 39
    omega
  · obtain ⟨x, hx, rfl⟩ := List.mem_map.mp hK
    rw [List.length_map]
    by_cases he : x < s.2.length
    · refine (k4 (s.2.getD x []) ?_).1
      rw [List.getD_eq_getElem?_getD, List.getElem?_eq_getElem he]
      exact List.getElem_mem he
    · rw [List.getD_eq_getElem?_getD, List.getElem?_eq_none (by omega)]
      simp
theorem ac_mem {I : Mem} {m : Nat} {B : List As} (h : AcP I m B) {s : As} (hs : s ∈ B) : ∃ g, AcS I g s := by
  obtain ⟨i, hi⟩ := List.getElem?_of_mem hs
  have hl := (List.getElem?_eq_some_iff.mp hi).1
  have e : B.getD i zA = s := by rw [List.getD_eq_getElem?_getD, hi]; rfl
  have := (h.2.2.2.2.2 i hl).1
  rw [e] at this
  exact ⟨_, this⟩
theorem ag_map {I : Mem} {m f : Nat} {B : List As} (h : AcP I m B) : (B.map (wsg f)).map asO = B.map (agS f) := by
  rw [List.map_map]
  refine List.map_congr_left fun s hs => ?_
  obtain ⟨g, hg⟩ := ac_mem h hs
  exact as_ws hg.2.1
theorem ag_tgs {f : Nat} {B : List As} : tgs (B.map (agS f)) = tgs B := by
  unfold tgs
  rw [List.map_map]
  rfl
theorem ag_at {f s : Nat} {B : List As} (hs : s < B.length) : (B.map (agS f)).getD s zA = agS f (B.getD s zA) := by
  rw [List.getD_eq_getElem?_getD, List.getElem?_map, List.getD_eq_getElem?_getD, List.getElem?_eq_getElem hs]
  rfl
theorem againL {Io Ip : Mem} {m m' f s e : Nat} {B : List As} (hA : AcP Io m B) (hA' : AcP Ip m' (B.map (agS f))) (hs : s < B.length) (he : e < f) (hf : f ≤ 5) :
    loopF (fun a => m_L_isReadAgain_b183 (nI f) (nI s) (nI e) (nI ((B.getD s zA).2.getD e []).length) a.1 a.2 ((Io, Ip) : Mem2)) FU ((1 : Int32), (0 : Int32)) = some 1 := by
  have n10 : ¬ (1 : Int32) = 0 := by decide
  have hs' : s < (B.map (agS f)).length := by rw [List.length_map]; exact hs
  have e1 : ((B.map (agS f)).getD s zA).2.getD e [] = (B.getD s zA).2.getD e [] := by
    rw [ag_at hs]
    exact gr he
  have e2 : ((B.map (agS f)).getD s zA).2.length = f := by
    rw [ag_at hs]
    simp [agS]
  obtain ⟨n, hn⟩ : ∃ n, n = ((B.getD s zA).2.getD e []).length := ⟨_, rfl⟩
  have h8 : n ≤ 8 := by
    by_cases z : e < (B.getD s zA).2.length
    · rw [hn]; exact ((hA.2.2.2.2.2 s hs).1.el z).1
    · rw [hn, List.getD_eq_getElem?_getD, List.getElem?_eq_none (by omega)]
      simp
  rw [← hn]
  refine is_loop (n := n) (by omega) (fun x hx => ?_) ?_
  · have z : e < (B.getD s zA).2.length := Nat.lt_of_not_le fun q => by
      rw [hn, List.getD_eq_getElem?_getD, List.getElem?_eq_none (by omega)] at hx
      simp at hx
    have c : ¬ nI n ≤ nI x := nI_ge hx (by omega)
    have c1 := content_ok (x := x) hA hs z (by rw [← hn]; exact hx)
    have c2 := content_ok (e := e) (x := x) hA' hs' (by rw [e2]; exact he) (by rw [e1, ← hn]; exact hx)
    rw [e1] at c2
    simp only [m_L_isReadAgain_b183, c, if_false, n10, c1, c2, Option.bind_some, if_true, m_L_isReadAgain_j222, nI_1]
  · have c : nI n ≤ nI n := nI_le (by omega) (by omega)
    simp only [m_L_isReadAgain_b183, c, if_true]
theorem againE {Io Ip : Mem} {m m' f s : Nat} {B : List As} (hA : AcP Io m B) (hA' : AcP Ip m' (B.map (agS f))) (hs : s < B.length) (hf : f ≤ 5) :
    loopF (fun a => m_L_isReadAgain_b126 (nI f) (nI s) a.1 a.2 ((Io, Ip) : Mem2)) FU ((1 : Int32), (0 : Int32)) = some 1 := by
  have n10 : ¬ (1 : Int32) = 0 := by decide
  have hs' : s < (B.map (agS f)).length := by rw [List.length_map]; exact hs
  have e2 : ((B.map (agS f)).getD s zA).2.length = f := by
    rw [ag_at hs]
    simp [agS]
  have h5 := (hA.2.2.2.2.2 s hs).1.2.2.1
  have el := elements_ok hA hs
  refine is_loop (n := f) (by omega) (fun e he => ?_) ?_
  · have c : ¬ nI f ≤ nI e := nI_ge he (by omega)
    have e1 : ((B.map (agS f)).getD s zA).2.getD e [] = (B.getD s zA).2.getD e [] := by
      rw [ag_at hs]
      exact gr he
    have cp := contentLength_ok (e := e) hA' hs' (by rw [e2]; exact he)
    rw [e1] at cp
    have lp := againL hA hA' hs he hf
    have j : m_L_isReadAgain_j159 (nI f) (nI s) (nI e) (nI ((B.getD s zA).2.getD e []).length) ((Io, Ip) : Mem2) = some (.inl ((1 : Int32), nI (e + 1))) := by
      simp only [m_L_isReadAgain_j159, cp, Option.bind_some, if_true, m_L_isReadAgain_j179, lp, nI_1]
    by_cases z : e < (B.getD s zA).2.length
    · have c2 : ¬ nI (B.getD s zA).2.length ≤ nI e := nI_ge z (by omega)
      have co := contentLength_ok hA hs z
      simp only [m_L_isReadAgain_b126, c, if_false, n10, el, Option.bind_some, c2, co, j]
    · have c2 : nI (B.getD s zA).2.length ≤ nI e := nI_le (by omega) (by omega)
      have e3 : (B.getD s zA).2.getD e [] = [] := by
        rw [List.getD_eq_getElem?_getD, List.getElem?_eq_none (by omega)]
        rfl
      rw [e3] at j
      have j' : m_L_isReadAgain_j159 (nI f) (nI s) (nI e) (0 : Int32) ((Io, Ip) : Mem2) = some (.inl ((1 : Int32), nI (e + 1))) := j
      simp only [m_L_isReadAgain_b126, c, if_false, n10, el, Option.bind_some, c2, if_true, j']
  · have c : nI f ≤ nI f := nI_le (by omega) (by omega)
    simp only [m_L_isReadAgain_b126, c, if_true]
theorem againS {Io Ip : Mem} {m m' f : Nat} {B : List As} (hA : AcP Io m B) (hA' : AcP Ip m' (B.map (agS f))) (hf : f ≤ 5) :
    loopF (fun a => m_L_isReadAgain_b64 (nI f) a.1 a.2 ((Io, Ip) : Mem2)) FU ((1 : Int32), (0 : Int32)) = some 1 := by
  have n10 : ¬ (1 : Int32) = 0 := by decide
  have sg := segments_ok hA
  have hl := hA.2.1
  refine is_loop (n := B.length) (by omega) (fun s hs => ?_) ?_
  · have c : ¬ nI B.length ≤ nI s := nI_ge hs (by omega)
    have hs' : s < (B.map (agS f)).length := by rw [List.length_map]; exact hs
    have t1 := tag_ok hA hs
    have t2 := tag_ok hA' hs'
    have t3 := elements_ok hA' hs'
    have t4 := pass_ok hA hs
    have t5 := pass_ok hA' hs'
    rw [ag_tgs] at t5
    rw [ag_at hs] at t2 t3
    have e2 : (agS f (B.getD s zA)).2.length = f := by simp [agS]
    have e3 : (agS f (B.getD s zA)).1 = (B.getD s zA).1 := rfl
    rw [e2] at t3
    rw [e3] at t2
    simp only [m_L_isReadAgain_b64, n10, if_false, sg, Option.bind_some, c, t1, t2, if_true, t3, t4, t5, m_L_isReadAgain_j122, againE hA hA' hs hf, nI_1]
  · have c : nI B.length ≤ nI B.length := nI_le (by omega) (by omega)
    simp only [m_L_isReadAgain_b64, n10, if_false, sg, Option.bind_some, c, if_true]
theorem length_ok {I : Mem} {W : List Nat} (h : TxL I W) : m_X11_length 0 I = some (nI W.length) := by
  simp only [m_X11_length, m_X10_count, Nat.zero_add, h.2.1, Option.bind_some]
theorem again_ok {Io Ip : Mem} {f m d u v k lc m' d' u' v' k' lc' c : Nat} {hc hc' : Bool} {B : List As} (h : ST Io f m d u v k hc lc) (hA : AcP Io m B) (hU : OuT Io u (encM (msT (B.map (wsg f)) c))) (hp : ST Ip f m' d' u' v' k' hc' lc') (hT : TxL Ip []) (hc9 : c ≤ 9) (hseq : hc' = true → c = lc' + 1) :
    ∃ J, m_L_isReadAgain (nI f) ((Io, Ip) : Mem2) = some (1, (Io, J)) ∧ ST J f d' m' u' v' k' true c ∧ TxL J [] := by
  have hf5 := h.1.1
  obtain ⟨J1, a1, a2, a3⟩ := again_feed (p3 := nI f) h.2.2.2 hU hT
  have hB : ∀ s ∈ B.map (wsg f), SgO s ∧ T3 (tgC (lts s.1)) := by
    intro s hs
    obtain ⟨b, hb, rfl⟩ := List.mem_map.mp hs
    obtain ⟨g, hg⟩ := ac_mem hA hb
    refine ⟨SgO_ws hg hf5, ?_⟩
    have e : tgC (lts (wsg f b).1) = b.1 := (tgC_1 hg.2.1).1
    rw [e]
    exact hg.2.1
  obtain ⟨J2, b1, b2, b3, b4, b5⟩ := read_ok (hp.t a3) a2 hB (by rw [List.length_map]; exact hA.2.1) (by omega) hseq
  rw [ag_map hA] at b4
  have s1 := segments_ok hA
  have s2 := segments_ok b4
  rw [List.length_map] at s2
  have n10 : ¬ (1 : Int32) = 0 := by decide
  have ok : okz 1 = true := by decide
  refine ⟨J2, ?_, b2, b3⟩
  simp only [m_L_isReadAgain, a1, Option.bind_some, length_ok a2, written_ok h.2.2.2 hU, if_true, b1, s1, s2, m_L_isReadAgain_j60, againS hA b4 hf5, ok, gd_t]
