/-! reading: the reference's split -/
theorem tgM_app {w : List Nat} {c : Nat} : tgM (w ++ [c]) = c := by unfold tgM; simp
theorem okt_iff {w : List Nat} : okt w = true ↔ w.length = 1 ∧ 65 ≤ tgM w ∧ tgM w ≤ 90 := by
  match w with
  | [] => simp [okt]
  | [c] => simp [okt, tgM]
  | a :: b :: l => simp [okt]
theorem TxM.fr {J J' : Mem} {t : Nat → Nat} {n : Nat} (h : TxM J t n) (hf : ∀ a b, (a = 196 ∧ b = 13) ∨ a = 206 → J' a b = J a b) : TxM J' t n := by
  obtain ⟨h1, h2, h3⟩ := h
  refine ⟨h1, by rw [hf _ _ (Or.inl ⟨rfl, rfl⟩), h2], fun i hi => ?_⟩
  rw [hf _ _ (Or.inr rfl)]
  exact h3 i hi
theorem in_ok {q lo hi : Nat} {I : Mem} (hq : q < 65536) (hl : lo < 65536) (hh : hi < 65536) : m_X12_in (nI q) (nI lo) (nI hi) I = some (bz (decide (lo ≤ q ∧ q ≤ hi))) := by
  by_cases a : q < lo
  · have c : nI q < nI lo := nI_lt a (by omega)
    rw [decide_eq_false (by omega)]
    simp only [m_X12_in, c, if_true]
    rfl
  · have c : ¬ nI q < nI lo := nI_nlt (by omega) (by omega)
    by_cases b : hi < q
    · have d : nI hi < nI q := nI_lt b (by omega)
      rw [decide_eq_false (by omega)]
      simp only [m_X12_in, c, if_false, d, if_true]
      rfl
    · have d : ¬ nI hi < nI q := nI_nlt (by omega) (by omega)
      rw [decide_eq_true (by omega)]
      simp only [m_X12_in, c, if_false, d]
      rfl
theorem tagM_ok {K : Mem} {t : Nat → Nat} {n e s a k : Nat} (h : TxM K t n) (hp : Prt t n e s a) :
    loopF (fun x => m_X12_parts_b25 196 (nI a) (nI e) (nI k) 0 x.1 x.2.1 x.2.2 K) FU ((0 : Int32), (32 : Int32), nI a) = some (nI (wlk t s a).length, nI (tgM (wlk t s a)), nI s) := by
  have hn := h.1
  have hle := hp.le
  obtain ⟨b, f1, f2⟩ := loop_run (body := fun x => m_X12_parts_b25 196 (nI a) (nI e) (nI k) 0 x.1 x.2.1 x.2.2 K)
    (Inv := fun r x => ∃ y W, r = s - y ∧ x.2.2 = nI y ∧ Prt t n e s y ∧ W ++ wlk t s y = wlk t s a ∧ x.1 = nI W.length ∧ x.2.1 = nI (tgM W))
    (Post := fun b => b = (nI (wlk t s a).length, nI (tgM (wlk t s a)), nI s)) (fun r x ⟨y, W, g1, g2, g3, g4, g5, g6⟩ => by
      obtain ⟨x5, x6, x7⟩ := x
      simp only at g2 g5 g6
      subst g2
      subst g5
      subst g6
      have ley := g3.le
      have w8 : inb (nI y) 300 = true := inb_n (by omega) (by omega)
      have w9 : (nI y).toNatClampNeg = y := nI_clamp (by omega)
      by_cases z : y < s
      · obtain ⟨p1, p2, p3, p4⟩ := g3.step z
        have hst := stp_gt t y
        have ty := h.2.2 y (by omega)
        have cc : ¬ nI e ≤ nI y := nI_ge (by omega) (by omega)
        have c43 : ¬ nI (t y) = 43 := fun q => p1 ((nI_eq (b := 43) (by omega) (by omega)).mp q)
        have go : ∀ u x, y + u = x → x + 1 = stp t y → t x = ltr t y → x < n → m_X12_parts_b25 196 (nI a) (nI e) (nI k) 0 (nI W.length) (nI (tgM W)) (nI y) K = m_X12_parts_j62 196 (nI a) (nI e) (nI k) 0 (nI W.length) (nI y) (nI u) K → ∃ a' n', n' < r ∧ m_X12_parts_b25 196 (nI a) (nI e) (nI k) 0 (nI W.length) (nI (tgM W)) (nI y) K = some (.inl a') ∧ ∃ y W, n' = s - y ∧ a'.2.2 = nI y ∧ Prt t n e s y ∧ W ++ wlk t s y = wlk t s a ∧ a'.1 = nI W.length ∧ a'.2.1 = nI (tgM W) := fun u x hu hx hl hxn hb => by
          have tx := h.2.2 x hxn
          have e3 : nI x + 1 = nI (stp t y) := by rw [nI_1, hx]
          have e4 : nI y + nI u = nI x := by rw [nI_add, hu]
          have e5 : nI W.length + 1 = nI (W.length + 1) := nI_1 _
          have v8 : inb (nI x) 300 = true := inb_n (by omega) (by omega)
          have v9 : (nI x).toNatClampNeg = x := nI_clamp (by omega)
          refine ⟨(nI (W.length + 1), nI (t x), nI (stp t y)), s - stp t y, by omega, ?_, stp t y, W ++ [t x], rfl, rfl, p3, ?_, by rw [List.length_append]; rfl, by rw [tgM_app]⟩
          · rw [hb]
            simp only [m_X12_parts_j62, e4, v8, v9, gd_t, Nat.reduceAdd, tx.2.2, e5, e3]
          · rw [← g4, wlk_s z, List.append_assoc, hl]
            rfl
        by_cases v : t y = 63
        · have v' : nI (t y) = 63 := by rw [v]; rfl
          have hs2 : stp t y = y + 2 := by unfold stp; rw [if_pos v]
          exact Or.inr (go 1 (y + 1) rfl (by omega) (by unfold ltr; rw [if_pos v]) (by omega) (by simp only [m_X12_parts_b25, cc, if_false, w8, w9, gd_t, Nat.reduceAdd, ty.2.2, c43, if_pos v']; rfl))
        · have v' : ¬ nI (t y) = 63 := fun q => v ((nI_eq (b := 63) (by omega) (by omega)).mp q)
          have hs2 : stp t y = y + 1 := by unfold stp; rw [if_neg v]
          exact Or.inr (go 0 y rfl (by omega) (by unfold ltr; rw [if_neg v]) (by omega) (by simp only [m_X12_parts_b25, cc, if_false, w8, w9, gd_t, Nat.reduceAdd, ty.2.2, c43, if_neg v']; rfl))
      · have hys : y = s := by omega
        subst hys
        rw [wlk_nil z, List.append_nil] at g4
        rw [← g4]
        by_cases o : y < e
        · have cc : ¬ nI e ≤ nI y := nI_ge o (by omega)
          have t43 : t y = 43 := by
            have := (Chn.part' g3.1).2.2.2
            rw [g3.2] at this
            exact (this o).1
          have ty := h.2.2 y (by omega)
          have c43 : nI (t y) = 43 := by rw [t43]; rfl
          exact Or.inl ⟨_, by simp only [m_X12_parts_b25, cc, if_false, w8, w9, gd_t, Nat.reduceAdd, ty.2.2, if_pos c43], rfl⟩
        · have cc : nI e ≤ nI y := nI_le (by omega) (by omega)
          exact Or.inl ⟨_, by simp only [m_X12_parts_b25, cc, if_true], rfl⟩) FU (s - a) ((0 : Int32), (32 : Int32), nI a) (by unfold FU; omega)
    ⟨a, [], rfl, rfl, hp, rfl, rfl, rfl⟩
  rw [f1, f2]
theorem elM_ok {K : Mem} {t : Nat → Nat} {n e s f k j : Nat} (h : TxM K t n) (hp : Prt t n e s f) (hk : k < 20) (hj : j < 5) :
    ∃ K', loopF (fun x => m_X12_parts_b137 196 (nI e) (nI k) (nI j) (nI f) x.1 x.2.1 x.2.2) FU ((0 : Int32), nI f, K) = some (nI (wlk t s f).length, nI s, K') ∧ (∀ x, x < (wlk t s f).length → x < 8 → K' 213 (8 * (5 * k + j) + x) = nI ((wlk t s f).getD x 0)) ∧ ∀ a b, ¬ (a = 213 ∧ 8 * (5 * k + j) ≤ b ∧ b < 8 * (5 * k + j) + 8) → K' a b = K a b := by
  have hn := h.1
  have hle := hp.le
  obtain ⟨ix1, ix2, ix3⟩ := ix5 (s := k) (e := j) hk hj
  obtain ⟨b, f1, f2⟩ := loop_run (body := fun x => m_X12_parts_b137 196 (nI e) (nI k) (nI j) (nI f) x.1 x.2.1 x.2.2)
    (Inv := fun r x => ∃ y W, r = s - y ∧ x.2.1 = nI y ∧ Prt t n e s y ∧ f ≤ y ∧ W.length ≤ y - f ∧ W ++ wlk t s y = wlk t s f ∧ x.1 = nI W.length ∧ (∀ u, u < W.length → u < 8 → x.2.2 213 (8 * (5 * k + j) + u) = nI (W.getD u 0)) ∧ ∀ a b, ¬ (a = 213 ∧ 8 * (5 * k + j) ≤ b ∧ b < 8 * (5 * k + j) + 8) → x.2.2 a b = K a b)
    (Post := fun b => b.1 = nI (wlk t s f).length ∧ b.2.1 = nI s ∧ (∀ x, x < (wlk t s f).length → x < 8 → b.2.2 213 (8 * (5 * k + j) + x) = nI ((wlk t s f).getD x 0)) ∧ ∀ a b', ¬ (a = 213 ∧ 8 * (5 * k + j) ≤ b' ∧ b' < 8 * (5 * k + j) + 8) → b.2.2 a b' = K a b') (fun r x ⟨y, W, g1, g2, g3, g4, g5, g6, g7, g8, g9⟩ => by
      obtain ⟨x5, x7, I⟩ := x
      simp only at g2 g7 g8 g9
      subst g2
      subst g7
      have ley := g3.le
      have hTI : TxM I t n := h.fr fun a b q => g9 a b (by omega)
      have w8 : inb (nI y) 300 = true := inb_n (by omega) (by omega)
      have w9 : (nI y).toNatClampNeg = y := nI_clamp (by omega)
      by_cases z : y < s
      · obtain ⟨p1, p2, p3, p4⟩ := g3.step z
        have hst := stp_gt t y
        have ty := hTI.2.2 y (by omega)
        have cc : ¬ nI e ≤ nI y := nI_ge (by omega) (by omega)
        have c43 : ¬ nI (t y) = 43 := fun q => p1 ((nI_eq (b := 43) (by omega) (by omega)).mp q)
        have go : ∀ u x, y + u = x → x + 1 = stp t y → t x = ltr t y → x < n → m_X12_parts_b137 196 (nI e) (nI k) (nI j) (nI f) (nI W.length) (nI y) I = m_X12_parts_j174 196 (nI e) (nI k) (nI j) (nI W.length) (nI f) (nI y) (nI u) I → ∃ a' n', n' < r ∧ m_X12_parts_b137 196 (nI e) (nI k) (nI j) (nI f) (nI W.length) (nI y) I = some (.inl a') ∧ ∃ y W, n' = s - y ∧ a'.2.1 = nI y ∧ Prt t n e s y ∧ f ≤ y ∧ W.length ≤ y - f ∧ W ++ wlk t s y = wlk t s f ∧ a'.1 = nI W.length ∧ (∀ u, u < W.length → u < 8 → a'.2.2 213 (8 * (5 * k + j) + u) = nI (W.getD u 0)) ∧ ∀ a b, ¬ (a = 213 ∧ 8 * (5 * k + j) ≤ b ∧ b < 8 * (5 * k + j) + 8) → a'.2.2 a b = K a b := fun u x hu hx hl hxn hb => by
          have tx := hTI.2.2 x hxn
          have e3 : nI x + 1 = nI (stp t y) := by rw [nI_1, hx]
          have e4 : nI y + nI u = nI x := by rw [nI_add, hu]
          have e5 : nI W.length + 1 = nI (W.length + 1) := nI_1 _
          have v8 : inb (nI x) 300 = true := inb_n (by omega) (by omega)
          have v9 : (nI x).toNatClampNeg = x := nI_clamp (by omega)
          have hW : (W ++ [t x]) ++ wlk t s (stp t y) = wlk t s f := by
            rw [← g6, wlk_s z, List.append_assoc, hl]
            rfl
          by_cases l : W.length < 8
          · have c8 : ¬ 8 ≤ nI W.length := nI_ge (b := 8) l (by omega)
            obtain ⟨y1, y2, y3⟩ := ix8 (a := 5 * k + j) (x := W.length) (by omega) l
            have ok := okc_n' (show t x < 65536 by omega)
            refine ⟨(nI (W.length + 1), nI (stp t y), ms I 213 (8 * (5 * k + j) + W.length) (nI (t x))), s - stp t y, by omega, ?_, stp t y, W ++ [t x], rfl, rfl, p3, by omega, by simp; omega, hW, by rw [List.length_append]; rfl, fun v hv h8 => ?_, fun a b q => ?_⟩
            · rw [hb]
              simp only [m_X12_parts_j174, c8, if_false, e4, v8, v9, gd_t, Nat.reduceAdd, tx.2.2, ix1, y1, y2, y3, ok, bnd, m_X12_parts_j208, e5, e3]
            · show ms I 213 (8 * (5 * k + j) + W.length) (nI (t x)) 213 (8 * (5 * k + j) + v) = _
              rw [List.length_append] at hv
              simp only [List.length_cons, List.length_nil] at hv
              by_cases o : v = W.length
              · subst o
                rw [ms_s rfl rfl, getD_last]
              · rw [ms_o (by omega), getD_app (by omega)]
                exact g8 v (by omega) h8
            · show ms I 213 (8 * (5 * k + j) + W.length) (nI (t x)) a b = _
              rw [ms_o (by omega), g9 a b q]
          · have c8 : (8 : Int32) ≤ nI W.length := nI_le (a := 8) (by omega) (by omega)
            refine ⟨(nI (W.length + 1), nI (stp t y), I), s - stp t y, by omega, ?_, stp t y, W ++ [t x], rfl, rfl, p3, by omega, by simp; omega, hW, by rw [List.length_append]; rfl, fun v hv h8 => ?_, g9⟩
            · rw [hb]
              simp only [m_X12_parts_j174, c8, if_true, e4, m_X12_parts_j208, e5, e3]
            · show I 213 (8 * (5 * k + j) + v) = _
              rw [getD_app (by omega)]
              exact g8 v (by omega) h8
        by_cases v : t y = 63
        · have v' : nI (t y) = 63 := by rw [v]; rfl
          have hs2 : stp t y = y + 2 := by unfold stp; rw [if_pos v]
          exact Or.inr (go 1 (y + 1) rfl (by omega) (by unfold ltr; rw [if_pos v]) (by omega) (by simp only [m_X12_parts_b137, cc, if_false, w8, w9, gd_t, Nat.reduceAdd, ty.2.2, c43, if_pos v']; rfl))
        · have v' : ¬ nI (t y) = 63 := fun q => v ((nI_eq (b := 63) (by omega) (by omega)).mp q)
          have hs2 : stp t y = y + 1 := by unfold stp; rw [if_neg v]
          exact Or.inr (go 0 y rfl (by omega) (by unfold ltr; rw [if_neg v]) (by omega) (by simp only [m_X12_parts_b137, cc, if_false, w8, w9, gd_t, Nat.reduceAdd, ty.2.2, c43, if_neg v']; rfl))
      · have hys : y = s := by omega
        subst hys
        rw [wlk_nil z, List.append_nil] at g6
        rw [← g6]
        by_cases o : y < e
        · have cc : ¬ nI e ≤ nI y := nI_ge o (by omega)
          have t43 : t y = 43 := by
            have := (Chn.part' g3.1).2.2.2
            rw [g3.2] at this
            exact (this o).1
          have ty := hTI.2.2 y (by omega)
          have c43 : nI (t y) = 43 := by rw [t43]; rfl
          exact Or.inl ⟨(nI W.length, nI y, I), by simp only [m_X12_parts_b137, cc, if_false, w8, w9, gd_t, Nat.reduceAdd, ty.2.2, if_pos c43], rfl, rfl, g8, g9⟩
        · have cc : nI e ≤ nI y := nI_le (by omega) (by omega)
          exact Or.inl ⟨(nI W.length, nI y, I), by simp only [m_X12_parts_b137, cc, if_true], rfl, rfl, g8, g9⟩) FU (s - f) ((0 : Int32), nI f, K) (by unfold FU; omega)
    ⟨f, [], rfl, rfl, hp, Nat.le_refl _, by simp, rfl, rfl, fun u hu => absurd hu (Nat.not_lt_zero _), fun _ _ _ => rfl⟩
  obtain ⟨o1, o2, o3, o4⟩ := f2
  exact ⟨b.2.2, by rw [f1, ← o1, ← o2], o3, o4⟩
