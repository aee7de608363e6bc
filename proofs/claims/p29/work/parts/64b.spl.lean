def elP (t : Nat → Nat) (e : Nat) : Nat → Nat → List (List Nat)
  | 0, _ => []
  | f + 1, p => if p < e then wlk t (skp t 43 e (p + 1)) (p + 1) :: elP t e f (skp t 43 e (p + 1)) else []
def elF (t : Nat → Nat) (e : Nat) : Nat → Nat → List (Nat × Nat)
  | 0, p => if p < e then [(3, p + 1)] else []
  | f + 1, p => if p < e then (if 8 < (wlk t (skp t 43 e (p + 1)) (p + 1)).length then [(4, p + 1)] else []) ++ elF t e f (skp t 43 e (p + 1)) else []
abbrev Sg : Type := Nat × List Nat × List (List Nat)
def sgS (t : Nat → Nat) (e a : Nat) : Sg := (a, wlk t (skp t 43 e a) a, elP t e 5 (skp t 43 e a))
def sgF (t : Nat → Nat) (e a : Nat) : List (Nat × Nat) := (if okt (wlk t (skp t 43 e a) a) = true then [] else [(2, a)]) ++ elF t e 5 (skp t 43 e a)
def spS (t : Nat → Nat) (n : Nat) : Nat → Nat → List Sg
  | 0, _ => []
  | f + 1, a => if a < n then (if skp t 39 n a < n then sgS t (skp t 39 n a) a :: spS t n f (skp t 39 n a + 1) else []) else []
def spF (t : Nat → Nat) (n : Nat) : Nat → Nat → List (Nat × Nat)
  | 0, a => if a < n then [(5, a)] else []
  | f + 1, a => if a < n then (if skp t 39 n a < n then sgF t (skp t 39 n a) a ++ spF t n f (skp t 39 n a + 1) else [(1, a)]) else []
theorem elP_s {t : Nat → Nat} {e f p : Nat} : elP t e (f + 1) p = if p < e then wlk t (skp t 43 e (p + 1)) (p + 1) :: elP t e f (skp t 43 e (p + 1)) else [] := rfl
theorem elP_0 {t : Nat → Nat} {e p : Nat} : elP t e 0 p = [] := rfl
theorem elF_s {t : Nat → Nat} {e f p : Nat} : elF t e (f + 1) p = if p < e then (if 8 < (wlk t (skp t 43 e (p + 1)) (p + 1)).length then [(4, p + 1)] else []) ++ elF t e f (skp t 43 e (p + 1)) else [] := rfl
theorem elF_0 {t : Nat → Nat} {e p : Nat} : elF t e 0 p = if p < e then [(3, p + 1)] else [] := rfl
theorem elP_len {t : Nat → Nat} {e : Nat} : ∀ f p, (elP t e f p).length ≤ f := by
  intro f
  induction f with
  | zero => intro p; simp [elP]
  | succ f ih =>
    intro p
    have := ih (skp t 43 e (p + 1))
    simp only [elP]
    split <;> simp <;> omega
theorem elF_len {t : Nat → Nat} {e : Nat} : ∀ f p, (elF t e f p).length ≤ f + 1 := by
  intro f
  induction f with
  | zero => intro p; simp only [elF]; split <;> simp
  | succ f ih =>
    intro p
    have := ih (skp t 43 e (p + 1))
    simp only [elF]
    split
    · rw [List.length_append]
      split <;> simp <;> omega
    · simp
theorem sgF_len {t : Nat → Nat} {e a : Nat} : (sgF t e a).length ≤ 7 := by
  have := elF_len (t := t) (e := e) 5 (skp t 43 e a)
  unfold sgF
  rw [List.length_append]
  split <;> simp <;> omega
def SgC (J : Mem) (g : Nat) (E : List (List Nat)) : Prop := J g 4 = nI E.length ∧ ∀ j, j < E.length → ElC J g j (E.getD j [])
def FrG (g : Nat) (J J' : Mem) : Prop := ∀ a b, ¬ (29 ≤ a ∧ a ≤ 31) → ¬ (a = g ∧ 2 ≤ b ∧ b ≤ 4) → a ≠ g + 1 → a ≠ g + 2 → J' a b = J a b
theorem FrG.tr {g : Nat} {A B C : Mem} (h : FrG g A B) (h2 : FrG g B C) : FrG g A C := fun a b p q r s => (h2 a b p q r s).trans (h a b p q r s)
theorem FrG.rf {g : Nat} {A : Mem} : FrG g A A := fun _ _ _ _ _ _ => rfl
def FrF (g : Nat) (J J' : Mem) : Prop := ∀ a b, ¬ (29 ≤ a ∧ a ≤ 31) → ¬ (a = g ∧ b = 4) → a ≠ g + 1 → a ≠ g + 2 → J' a b = J a b
theorem FrF.g {g : Nat} {A B : Mem} (h : FrF g A B) : FrG g A B := fun a b p q r s => h a b p (by omega) r s
theorem TxC.fr {J J' : Mem} {t : Nat → Nat} {n : Nat} (h : TxC J t n) (hf : ∀ a b, (a = 27 ∧ b = 1) ∨ a = 28 → J' a b = J a b) : TxC J' t n := by
  obtain ⟨h1, h2, h3⟩ := h
  refine ⟨h1, by rw [hf _ _ (Or.inl ⟨rfl, rfl⟩), h2], fun i hi => ?_⟩
  rw [hf _ _ (Or.inr rfl)]
  exact h3 i hi
theorem TxC.g {J J' : Mem} {t : Nat → Nat} {n g : Nat} (h : TxC J t n) (hg : 60 ≤ g) (hf : FrG g J J') : TxC J' t n := h.fr fun a b q => hf a b (by omega) (by omega) (by omega) (by omega)
theorem getD_appE {w : List (List Nat)} {c : List Nat} {x : Nat} (h : x < w.length) : (w ++ [c]).getD x [] = w.getD x [] := by
  simp only [List.getD_eq_getElem?_getD]
  rw [List.getElem?_append_left h]
theorem getD_lastE {w : List (List Nat)} {c : List Nat} : (w ++ [c]).getD w.length [] = c := by simp [List.getD_eq_getElem?_getD]
theorem takeEl_ok {J : Mem} {t : Nat → Nat} {n e s f g : Nat} {E : List (List Nat)} {F : List (Nat × Nat)} (h : TxC J t n) (hp : Prt t n e s f) (hg : 60 ≤ g) (hE : SgC J g E) (hm : E.length < 5) (hF : FlC J F) (hl : F.length < 141) :
    ∃ J', m_X5_takeElement 32 27 (nI f) (nI s) g J = some J' ∧ SgC J' g (E ++ [wlk t s f]) ∧ FlC J' (F ++ (if 8 < (wlk t s f).length then [(4, f)] else [])) ∧ FrF g J J' := by
  have hn := h.1
  have hle := hp.le
  obtain ⟨hE1, hE2⟩ := hE
  have e1 : ¬ 5 ≤ nI E.length := nI_ge (b := 5) hm (by omega)
  have e2 : inb (nI E.length) 5 = true := inb_n hm (by omega)
  have e3 : (nI E.length).toNatClampNeg = E.length := nI_clamp (by omega)
  have e4 : ms J (g + 2) E.length 0 g 4 = nI E.length := by rw [ms_o (by omega), hE1]
  have e5 : nI E.length + 1 = nI (E.length + 1) := nI_1 _
  have beg : m_X9_beginElement g J = some (ms (ms J (g + 2) E.length 0) g 4 (nI (E.length + 1))) := by
    simp only [m_X9_beginElement, hE1, e1, if_false, e2, e3, gd_t, bnd, e4, e5]
  obtain ⟨I1, hI1⟩ : ∃ I1, I1 = ms (ms J (g + 2) E.length 0) g 4 (nI (E.length + 1)) := ⟨_, rfl⟩
  rw [← hI1] at beg
  have i4 : I1 g 4 = nI (E.length + 1) := by rw [hI1, ms_s rfl rfl]
  have i2 : I1 (g + 2) E.length = 0 := by rw [hI1, ms_o (by omega), ms_s rfl rfl]
  have iF : ∀ a b, ¬ (a = g ∧ b = 4) → ¬ (a = g + 2 ∧ b = E.length) → I1 a b = J a b := fun a b p q => by rw [hI1, ms_o (by omega), ms_o (by omega)]
  obtain ⟨b, f1, f2⟩ := loop_run (body := fun a => m_X5_takeElement_b8 32 27 (nI f) (nI s) g a.1 a.2)
    (Inv := fun r a => ∃ y W, r = s - y ∧ a.1 = nI y ∧ Prt t n e s y ∧ f ≤ y ∧ W.length ≤ y - f ∧ W ++ wlk t s y = wlk t s f ∧ ElC a.2 g E.length W ∧ (∀ a' b', ¬ (a' = g + 1 ∧ 8 * E.length ≤ b' ∧ b' < 8 * E.length + 8) → ¬ (a' = g + 2 ∧ b' = E.length) → a.2 a' b' = I1 a' b'))
    (Post := fun b => ElC b g E.length (wlk t s f) ∧ (∀ a' b', ¬ (a' = g + 1 ∧ 8 * E.length ≤ b' ∧ b' < 8 * E.length + 8) → ¬ (a' = g + 2 ∧ b' = E.length) → b a' b' = I1 a' b')) (fun r a ⟨y, W, g1, g2, g3, g4, g5, g6, g7, g8⟩ => by
      obtain ⟨x5, I⟩ := a
      simp only at g2 g7 g8
      subst g2
      have ley := g3.le
      have hTI : TxC I t n := h.fr fun a b q => by rw [g8 a b (by omega) (by omega), iF a b (by omega) (by omega)]
      by_cases z : y < s
      · obtain ⟨p1, p2, p3, p4⟩ := g3.step z
        have hst := stp_gt t y
        have cc : ¬ nI s ≤ nI y := nI_ge z (by omega)
        have ay := hTI.at (show y < n by omega)
        have ty := h.2.2 y (by omega)
        have I4 : I g 4 = nI (E.length + 1) := by rw [g8 _ _ (by omega) (by omega), i4]
        have go : ∀ x, x + 1 = stp t y → t x = ltr t y → x < n → m_X5_takeElement_b8 32 27 (nI f) (nI s) g (nI y) I = m_X5_takeElement_j28 32 27 (nI f) (nI s) g (nI x) I → ∃ a' n', n' < r ∧ m_X5_takeElement_b8 32 27 (nI f) (nI s) g (nI y) I = some (.inl a') ∧ ∃ y W, n' = s - y ∧ a'.1 = nI y ∧ Prt t n e s y ∧ f ≤ y ∧ W.length ≤ y - f ∧ W ++ wlk t s y = wlk t s f ∧ ElC a'.2 g E.length W ∧ (∀ a'' b', ¬ (a'' = g + 1 ∧ 8 * E.length ≤ b' ∧ b' < 8 * E.length + 8) → ¬ (a'' = g + 2 ∧ b' = E.length) → a'.2 a'' b' = I1 a'' b') := fun x hx hl hxn hb => by
          have tx := h.2.2 x hxn
          obtain ⟨I', q1, q2, q3⟩ := append_ok (c := t x) hm I4 g7 (by omega) (by omega)
          have e3 : nI x + 1 = nI (stp t y) := by rw [nI_1, hx]
          refine ⟨(nI (stp t y), I'), s - stp t y, by omega, ?_, stp t y, W ++ [t x], rfl, rfl, p3, by omega, by rw [List.length_append]; simp only [List.length_cons, List.length_nil]; omega, ?_, q2, fun a b p q => by show I' a b = _; rw [q3 a b p q, g8 a b p q]⟩
          · rw [hb]
            simp only [m_X5_takeElement_j28, hTI.at hxn, Option.bind_some, q1, e3]
          · rw [← g6, wlk_s z, List.append_assoc, hl]
            rfl
        by_cases v : t y = 63
        · have v' : nI (t y) = 63 := by rw [v]; rfl
          have hs2 : stp t y = y + 2 := by unfold stp; rw [if_pos v]
          have e3 : nI y + 1 = nI (y + 1) := nI_1 y
          exact Or.inr (go (y + 1) (by omega) (by unfold ltr; rw [if_pos v]) (by omega) (by simp only [m_X5_takeElement_b8, cc, if_false, ay, Option.bind_some, if_pos v', e3]))
        · have v' : ¬ nI (t y) = 63 := fun q => v ((nI_eq (b := 63) (by omega) (by omega)).mp q)
          have hs2 : stp t y = y + 1 := by unfold stp; rw [if_neg v]
          exact Or.inr (go y (by omega) (by unfold ltr; rw [if_neg v]) (by omega) (by simp only [m_X5_takeElement_b8, cc, if_false, ay, Option.bind_some, if_neg v']))
      · have cc : nI s ≤ nI y := nI_le (by omega) (by omega)
        refine Or.inl ⟨I, by simp only [m_X5_takeElement_b8, cc, if_true], ?_, g8⟩
        rw [wlk_nil z, List.append_nil] at g6
        rw [← g6]
        exact g7) FU (s - f) (nI f, I1) (by unfold FU; omega)
    ⟨f, [], rfl, rfl, hp, Nat.le_refl _, by simp, rfl, ⟨i2, fun x hx => absurd hx (Nat.not_lt_zero _)⟩, fun _ _ _ _ => rfl⟩
  obtain ⟨f2, f3⟩ := f2
  have hb4 : b g 4 = nI (E.length + 1) := by rw [f3 _ _ (by omega) (by omega), i4]
  have cnt := countIn_ok (c := E.length + 1) (e := E.length) (by omega) (by omega) hb4 f2.1
  have e6 : nI (E.length + 1) - 1 = nI E.length := nI_pred _
  have hSb : SgC b g (E ++ [wlk t s f]) := by
    refine ⟨by rw [hb4, List.length_append]; rfl, fun j hj => ?_⟩
    rw [List.length_append] at hj
    simp only [List.length_cons, List.length_nil] at hj
    by_cases o : j = E.length
    · subst o
      rw [getD_lastE]
      exact f2
    · rw [getD_appE (by omega)]
      obtain ⟨k1, k2⟩ := hE2 j (by omega)
      refine ⟨by rw [f3 _ _ (by omega) (by omega), iF _ _ (by omega) (by omega), k1], fun x hx h8 => ?_⟩
      rw [f3 _ _ (by omega) (by omega), iF _ _ (by omega) (by omega)]
      exact k2 x hx h8
  have frb : FrF g J b := fun a b' p q r u => by rw [f3 a b' (by omega) (by omega), iF a b' (by omega) (by omega)]
  have hFb : FlC b F := by
    obtain ⟨k1, k2⟩ := hF
    refine ⟨by rw [f3 _ _ (by omega) (by omega), iF _ _ (by omega) (by omega), k1], fun i hi => ?_⟩
    rw [f3 _ _ (by omega) (by omega), iF _ _ (by omega) (by omega), f3 _ _ (by omega) (by omega), iF _ _ (by omega) (by omega)]
    exact k2 i hi
  have hlen := wlk_le (t := t) (p := s) s f (by omega)
  by_cases z : 8 < (wlk t s f).length
  · have c : ¬ nI (wlk t s f).length ≤ 8 := nI_ge (a := 8) z (by omega)
    rw [if_pos z]
    obtain ⟨J', q1, q2, q3⟩ := FlC.add (k := 4) (p := f) hFb hl
    have q1' : m_X1_add 29 (4 : Int32) (nI f) b = some J' := q1
    refine ⟨J', by simp only [m_X5_takeElement, beg, Option.bind_some, f1, m_X9_elementCount, hb4, e6, cnt, c, if_false, Nat.reduceSub, q1'], ⟨by rw [q3 _ _ (by omega), hSb.1], fun j hj => ?_⟩, q2, fun a b' p q r u => by rw [q3 a b' p, frb a b' p q r u]⟩
    obtain ⟨k1, k2⟩ := hSb.2 j hj
    exact ⟨by rw [q3 _ _ (by omega), k1], fun x hx h8 => by rw [q3 _ _ (by omega)]; exact k2 x hx h8⟩
  · have c : nI (wlk t s f).length ≤ 8 := nI_le (b := 8) (by omega) (by omega)
    rw [if_neg z, List.append_nil]
    exact ⟨b, by simp only [m_X5_takeElement, beg, Option.bind_some, f1, m_X9_elementCount, hb4, e6, cnt, c, if_true], hSb, hFb, frb⟩
def SgD (J : Mem) (g : Nat) (S : Sg) : Prop := J g 2 = nI S.1 ∧ J g 3 = nI (tgC S.2.1) ∧ SgC J g S.2.2
theorem FlC.g {J J' : Mem} {F : List (Nat × Nat)} (h : FlC J F) (hf : ∀ a b, 29 ≤ a ∧ a ≤ 31 → J' a b = J a b) : FlC J' F := by
  obtain ⟨k1, k2⟩ := h
  refine ⟨by rw [hf _ _ (by omega), k1], fun i hi => ?_⟩
  rw [hf _ _ (by omega), hf _ _ (by omega)]
  exact k2 i hi
theorem SgC.g {J J' : Mem} {g : Nat} {E : List (List Nat)} (h : SgC J g E) (hf : ∀ a b, (a = g ∧ b = 4) ∨ a = g + 1 ∨ a = g + 2 → J' a b = J a b) : SgC J' g E := by
  obtain ⟨k1, k2⟩ := h
  refine ⟨by rw [hf _ _ (Or.inl ⟨rfl, rfl⟩), k1], fun j hj => ?_⟩
  obtain ⟨k3, k4⟩ := k2 j hj
  exact ⟨by rw [hf _ _ (Or.inr (Or.inr rfl)), k3], fun x hx h8 => by rw [hf _ _ (Or.inr (Or.inl rfl))]; exact k4 x hx h8⟩
theorem takeSeg_ok {J : Mem} {t : Nat → Nat} {n e a g : Nat} {F : List (Nat × Nat)} (h : TxC J t n) (hc : Chn t n e a) (hg : 60 ≤ g) (hF : FlC J F) (hl : F.length + 7 ≤ 141) :
    ∃ J', m_X5_takeSegment 32 27 (nI a) (nI e) g J = some J' ∧ SgD J' g (sgS t e a) ∧ FlC J' (F ++ sgF t e a) ∧ FrG g J J' := by
  have hn := h.1
  have hP := Prt.start hc
  have hle := hP.le
  obtain ⟨s, hs⟩ : ∃ s, s = skp t 43 e a := ⟨_, rfl⟩
  have pe := partEnd_ok h (show e ≤ n by omega) (show a ≤ e by omega)
  rw [← hs] at hP hle pe
  have tb := tagBetween_ok h hP
  obtain ⟨w, hw⟩ : ∃ w, w = wlk t s a := ⟨_, rfl⟩
  rw [← hw] at tb
  have tlt : tgC w < 65536 := by
    unfold tgC
    split
    · rename_i q
      have := okt_eq q
      have h2 : tgC w = w.headD 32 := by unfold tgC; rw [if_pos q]
      omega
    · omega
  have ok := okc_n' tlt
  obtain ⟨I1, hI1⟩ : ∃ I1, I1 = ms (ms (ms J g 2 (nI a)) g 3 (nI (tgC w))) g 4 0 := ⟨_, rfl⟩
  have i2 : I1 g 2 = nI a := by rw [hI1, ms_o (by omega), ms_o (by omega), ms_s rfl rfl]
  have i3 : I1 g 3 = nI (tgC w) := by rw [hI1, ms_o (by omega), ms_s rfl rfl]
  have i4 : I1 g 4 = 0 := by rw [hI1, ms_s rfl rfl]
  have iF : ∀ a b, ¬ (a = g ∧ 2 ≤ b ∧ b ≤ 4) → I1 a b = J a b := fun a b p => by rw [hI1, ms_o (by omega), ms_o (by omega), ms_o (by omega)]
  have fr1 : FrG g J I1 := fun a b p q r u => iF a b q
  have tag := isTag_ok (q := tgC w) (I := I1) tlt
  have okiff : (65 ≤ tgC w ∧ tgC w ≤ 90) ↔ okt w = true := by
    constructor
    · intro q
      cases o : okt w with
      | true => rfl
      | false => unfold tgC at q; rw [o] at q; simp at q
    · exact fun q => (okt_eq q).2
  -- from the memory behind the tag: the elements
  have rest : ∀ (I : Mem) (F1 : List (Nat × Nat)), (∀ b, 2 ≤ b → b ≤ 4 → I g b = I1 g b) → FrG g J I → FlC I F1 → F1.length + 6 ≤ 141 → ∃ J', m_X5_takeSegment_j41 32 27 (nI e) g (nI s) I = some J' ∧ SgD J' g (a, w, elP t e 5 s) ∧ FlC J' (F1 ++ elF t e 5 s) ∧ FrG g J J' := fun I F1 hI frI hF1 hl1 => by
    obtain ⟨b, f1, f2⟩ := loop_run (body := fun a => m_X5_takeSegment_b44 32 27 (nI e) g a.1 a.2.1 a.2.2)
      (Inv := fun r a' => ∃ p E F2, r = 5 - E.length ∧ a'.1 = nI p ∧ a'.2.1 = nI E.length ∧ p ≤ e ∧ (p < e → t p = 43 ∧ Chn t n e (p + 1)) ∧ E.length ≤ 5 ∧ E ++ elP t e (5 - E.length) p = elP t e 5 s ∧ F2 ++ elF t e (5 - E.length) p = F1 ++ elF t e 5 s ∧ F2.length ≤ F1.length + E.length ∧ SgC a'.2.2 g E ∧ FlC a'.2.2 F2 ∧ a'.2.2 g 2 = nI a ∧ a'.2.2 g 3 = nI (tgC w) ∧ FrG g J a'.2.2)
      (Post := fun b => ∃ p F2, b.1 = nI p ∧ p ≤ e ∧ F2.length + 1 ≤ 141 ∧ F2 ++ (if p < e then [(3, p + 1)] else []) = F1 ++ elF t e 5 s ∧ SgC b.2 g (elP t e 5 s) ∧ FlC b.2 F2 ∧ b.2 g 2 = nI a ∧ b.2 g 3 = nI (tgC w) ∧ FrG g J b.2) (fun r a' ⟨p, E, F2, g1, g2, g2', g3, g4, g5, g6, g7, g7', g8, g9, g10, g11, g12⟩ => by
        obtain ⟨x5, x6, I2⟩ := a'
        simp only at g2 g2' g8 g9 g10 g11 g12
        subst g2
        subst g2'
        by_cases z : p < e
        · have cc : ¬ nI e ≤ nI p := nI_ge z (by omega)
          by_cases y : E.length = 5
          · have c5 : (5 : Int32) ≤ nI E.length := nI_le (a := 5) (by omega) (by omega)
            rw [y, Nat.sub_self] at g6 g7
            rw [elP_0 (p := p), List.append_nil] at g6
            rw [elF_0 (p := p)] at g7
            exact Or.inl ⟨(nI p, I2), by simp only [m_X5_takeSegment_b44, c5, if_true], p, F2, rfl, g3, by omega, g7, by rw [← g6]; exact g8, g9, g10, g11, g12⟩
          · have c5 : ¬ 5 ≤ nI E.length := nI_ge (b := 5) (by omega) (by omega)
            have hTI := h.g hg g12
            obtain ⟨q1, q2⟩ := g4 z
            have pe2 := partEnd_ok hTI (show e ≤ n by omega) (show p + 1 ≤ e by omega)
            have hP2 := Prt.start q2
            have le2 := hP2.le
            obtain ⟨I3, u1, u2, u3, u4⟩ := takeEl_ok hTI hP2 hg g8 (by omega) g9 (by omega)
            have e3 : nI p + 1 = nI (p + 1) := nI_1 p
            have hd : 5 - E.length = (5 - (E.length + 1)) + 1 := by omega
            rw [hd] at g6 g7
            rw [elP_s (f := 5 - (E.length + 1)) (p := p), if_pos z] at g6
            rw [elF_s (f := 5 - (E.length + 1)) (p := p), if_pos z] at g7
            have e4 : nI E.length + 1 = nI (E.length + 1) := nI_1 _
            refine Or.inr ⟨(nI (skp t 43 e (p + 1)), nI (E.length + 1), I3), 5 - (E.length + 1), by omega, by simp only [m_X5_takeSegment_b44, cc, if_false, Option.bind_some, c5, e3, e4, pe2, u1], skp t 43 e (p + 1), E ++ [wlk t (skp t 43 e (p + 1)) (p + 1)], F2 ++ (if 8 < (wlk t (skp t 43 e (p + 1)) (p + 1)).length then [(4, p + 1)] else []), ?_, rfl, ?_, le2.2.1, (Chn.part' q2).2.2.2, ?_, ?_, ?_, ?_, u2, u3, ?_, ?_, g12.tr u4.g⟩
            · simp
            · simp
            · simp; omega
            · rw [List.length_append]
              simp only [List.length_cons, List.length_nil, Nat.zero_add]
              rw [List.append_assoc, ← g6]
              rfl
            · rw [List.length_append]
              simp only [List.length_cons, List.length_nil, Nat.zero_add]
              rw [List.append_assoc, ← g7]
            · rw [List.length_append, List.length_append]
              simp only [List.length_cons, List.length_nil]
              split
              · simp; omega
              · simp; omega
            · show I3 g 2 = nI a
              rw [u4 _ _ (by omega) (by omega) (by omega) (by omega), g10]
            · show I3 g 3 = nI (tgC w)
              rw [u4 _ _ (by omega) (by omega) (by omega) (by omega), g11]
        · have cc : nI e ≤ nI p := nI_le (by omega) (by omega)
          have e1 : elP t e (5 - E.length) p = [] := by cases (5 - E.length) <;> simp [elP, z]
          have e2 : elF t e (5 - E.length) p = [] := by cases (5 - E.length) <;> simp [elF, z]
          rw [e1, List.append_nil] at g6
          rw [e2] at g7
          have hb : m_X5_takeSegment_b44 32 27 (nI e) g (nI p) (nI E.length) I2 = some (.inr (nI p, I2)) := by
            by_cases c5 : (5 : Int32) ≤ nI E.length
            · simp only [m_X5_takeSegment_b44, c5, if_true]
            · simp only [m_X5_takeSegment_b44, c5, if_false, cc, if_true]
          exact Or.inl ⟨(nI p, I2), hb, p, F2, rfl, g3, by omega, by rw [if_neg z]; exact g7, by rw [← g6]; exact g8, g9, g10, g11, g12⟩) FU 5 (nI s, (0 : Int32), I) (by unfold FU; omega)
      ⟨s, [], F1, rfl, rfl, rfl, hle.2.1, by have := (Chn.part' hc).2.2.2; rw [← hs] at this; exact this, by simp, rfl, rfl, by simp, ⟨by show I g 4 = nI 0; rw [hI 4 (by omega) (by omega), i4]; rfl, fun j hj => absurd hj (Nat.not_lt_zero _)⟩, hF1, by show I g 2 = _; rw [hI 2 (by omega) (by omega), i2], by show I g 3 = _; rw [hI 3 (by omega) (by omega), i3], frI⟩
    obtain ⟨p, F2, o1, o2, o3, o4, o5, o6, o7, o8, o9⟩ := f2
    by_cases z : p < e
    · have cc : ¬ nI e ≤ nI p := nI_ge z (by omega)
      have e3 : nI p + 1 = nI (p + 1) := nI_1 p
      rw [if_pos z] at o4
      obtain ⟨J', q1, q2, q3⟩ := FlC.add (k := 3) (p := p + 1) o6 (by omega)
      have q1' : m_X1_add 29 (3 : Int32) (nI (p + 1)) b.2 = some J' := q1
      rw [o4] at q2
      exact ⟨J', by simp only [m_X5_takeSegment_j41, f1, Option.bind_some, o1, cc, if_false, e3, Nat.reduceSub, q1'], ⟨by rw [q3 _ _ (by omega), o7], by rw [q3 _ _ (by omega), o8], o5.g fun a b r => q3 a b (by omega)⟩, q2, fun a b' p q r u => by rw [q3 a b' p, o9 a b' p q r u]⟩
    · have cc : nI e ≤ nI p := nI_le (by omega) (by omega)
      rw [if_neg z, List.append_nil] at o4
      rw [o4] at o6
      exact ⟨b.2, by simp only [m_X5_takeSegment_j41, f1, Option.bind_some, o1, cc, if_true], ⟨o7, o8, o5⟩, o6, o9⟩
  have eS : sgS t e a = (a, w, elP t e 5 s) := by unfold sgS; rw [← hs, ← hw]
  have eF : sgF t e a = (if okt w = true then [] else [(2, a)]) ++ elF t e 5 s := by unfold sgF; rw [← hs, ← hw]
  rw [eS, eF]
  have hF1 : FlC I1 F := hF.g fun a b r => iF a b (by omega)
  have beg : m_X9_begin g (nI a) (nI (tgC w)) J = some I1 := by
    rw [hI1]
    simp only [m_X9_begin, bnd, ok, gd_t]
  have mkv : m_X9_mark g I1 = some (nI (tgC w)) := by simp only [m_X9_mark, i3, ok, gd_t]
  by_cases z : okt w = true
  · rw [decide_eq_true (okiff.mpr z), bz_t] at tag
    have n10 : ¬ (1 : Int32) = 0 := by decide
    rw [if_pos z, List.nil_append]
    obtain ⟨J', u1, u2, u3, u4⟩ := rest I1 F (fun _ _ _ => rfl) fr1 hF1 (by omega)
    exact ⟨J', by simp only [m_X5_takeSegment, pe, Option.bind_some, tb, beg, mkv, tag, n10, if_false, u1], u2, u3, u4⟩
  · rw [decide_eq_false (fun q => z (okiff.mp q)), bz_f] at tag
    rw [if_neg z, ← List.append_assoc]
    obtain ⟨J2, q1, q2, q3⟩ := FlC.add (k := 2) (p := a) hF1 (by omega)
    have q1' : m_X1_add 29 (2 : Int32) (nI a) I1 = some J2 := q1
    obtain ⟨J', u1, u2, u3, u4⟩ := rest J2 _ (fun b _ _ => q3 _ _ (by omega)) (fun a b' p q r u => by rw [q3 a b' p, fr1 a b' p q r u]) q2 (by rw [List.length_append]; simp only [List.length_cons, List.length_nil]; omega)
    exact ⟨J', by simp only [m_X5_takeSegment, pe, Option.bind_some, tb, beg, mkv, tag, if_true, Nat.reduceSub, q1', u1], u2, u3, u4⟩
