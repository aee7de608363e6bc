def Prt (t : Nat → Nat) (n e s y : Nat) : Prop := Chn t n e y ∧ skp t 43 e y = s
theorem Prt.le {t : Nat → Nat} {n e s y : Nat} (h : Prt t n e s y) : y ≤ s ∧ s ≤ e ∧ e < n := by
  have := Chn.part' h.1
  rw [h.2] at this
  exact ⟨this.2.1, this.2.2.1, h.1.2⟩
theorem Prt.step {t : Nat → Nat} {n e s y : Nat} (h : Prt t n e s y) (hy : y < s) : t y ≠ 43 ∧ t y ≠ 39 ∧ Prt t n e s (stp t y) ∧ stp t y ≤ s := by
  have hle := h.le
  have hne : t y ≠ 43 := fun z => by
    have := h.2
    rw [skp_stop (by omega)] at this
    omega
  have hs := h.1.step (show y < e by omega)
  have h2 : Prt t n e s (stp t y) := ⟨hs.1, by rw [← skp_go (by omega) hne]; exact h.2⟩
  exact ⟨hne, hs.2, h2, h2.le.1⟩
theorem Prt.start {t : Nat → Nat} {n e a : Nat} (h : Chn t n e a) : Prt t n e (skp t 43 e a) a := ⟨h, rfl⟩
def ltr (t : Nat → Nat) (y : Nat) : Nat := if t y = 63 then t (y + 1) else t y
theorem wlk_s {t : Nat → Nat} {p a : Nat} (h : a < p) : wlk t p a = ltr t a :: wlk t p (stp t a) := wlk_go h
def okt : List Nat → Bool
  | [c] => decide (65 ≤ c ∧ c ≤ 90)
  | _ => false
def tgC (w : List Nat) : Nat := if okt w = true then w.headD 32 else 32
def tgM (w : List Nat) : Nat := w.getLast?.getD 32
theorem okt_eq {w : List Nat} (h : okt w = true) : tgC w = tgM w ∧ 65 ≤ tgC w ∧ tgC w ≤ 90 := by
  unfold okt at h
  split at h
  · rename_i c
    have := of_decide_eq_true h
    unfold tgC
    rw [if_pos (by unfold okt; exact h)]
    exact ⟨rfl, this.1, this.2⟩
  · cases h
theorem isTag_ok {q : Nat} {I : Mem} (hq : q < 65536) : m_X11_isTag (nI q) I = some (bz (decide (65 ≤ q ∧ q ≤ 90))) := by
  by_cases a : q < 65
  · have c : nI q < 65 := nI_lt (b := 65) a (by omega)
    rw [decide_eq_false (by omega)]
    simp only [m_X11_isTag, c, if_true]
    rfl
  · have c : ¬ nI q < 65 := nI_nlt (b := 65) (by omega) (by omega)
    by_cases b : 90 < q
    · have d : ¬ nI q ≤ 90 := nI_ge (a := 90) b (by omega)
      have d' : (90 : Int32) < nI q := nI_lt (a := 90) b (by omega)
      rw [decide_eq_false (by omega)]
      simp only [m_X11_isTag, c, if_false, d, d', if_true]
      rfl
    · have d : nI q ≤ 90 := nI_le (b := 90) (by omega) (by omega)
      have d' : ¬ (90 : Int32) < nI q := nI_nlt (a := 90) (by omega) (by omega)
      rw [decide_eq_true (by omega)]
      simp only [m_X11_isTag, c, if_false, d, d', if_true]
      rfl
theorem tagBetween_ok {J : Mem} {t : Nat → Nat} {n e s a : Nat} (h : TxC J t n) (hp : Prt t n e s a) : m_X5_tagBetween 27 (nI a) (nI s) J = some (nI (tgC (wlk t s a))) := by
  have hn := h.1
  have hle := hp.le
  have ha := h.at (show a < n by omega)
  have hta := h.2.2 a (by omega)
  have e1 : nI a + 1 = nI (a + 1) := nI_1 a
  by_cases z : a < s
  · obtain ⟨p1, p2, p3, p4⟩ := hp.step z
    have hst := stp_gt t a
    -- the letter at y, alone or not
    have fin : ∀ y, y + 1 = stp t a → t y = ltr t a → y < n → m_X5_tagBetween_j17 27 (nI s) (nI y) J = some (nI (tgC (wlk t s a))) := fun y hy hl hyn => by
      have hay := h.at hyn
      have hty := h.2.2 y hyn
      have e2 : nI y + 1 = nI (stp t a) := by rw [nI_1, hy]
      rw [wlk_s z]
      by_cases o : stp t a = s
      · have o' : nI (stp t a) = nI s := by rw [o]
        have w0 : wlk t s (stp t a) = [] := wlk_nil (by omega)
        have it := isTag_ok (q := t y) (I := J) (by omega)
        have ok := okc_n' (show t y < 65536 by omega)
        have n10 : ¬ (1 : Int32) = 0 := by decide
        rw [w0, ← hl]
        by_cases v : 65 ≤ t y ∧ t y ≤ 90
        · rw [decide_eq_true v, bz_t] at it
          simp only [m_X5_tagBetween_j17, e2, if_pos o', m_X5_tagBetween_j30, n10, if_false, hay, Option.bind_some, it, ok, gd_t]
          unfold tgC
          rw [if_pos (by show decide _ = true; exact decide_eq_true v)]
          rfl
        · rw [decide_eq_false v, bz_f] at it
          simp only [m_X5_tagBetween_j17, e2, if_pos o', m_X5_tagBetween_j30, n10, if_false, hay, Option.bind_some, it, if_true]
          unfold tgC
          rw [if_neg (by show ¬ decide _ = true; rw [decide_eq_false v]; exact Bool.false_ne_true)]
          rfl
      · have o' : ¬ nI (stp t a) = nI s := fun q => o ((nI_eq (by omega) (by omega)).mp q)
        simp only [m_X5_tagBetween_j17, e2, if_neg o', m_X5_tagBetween_j30, if_true]
        rw [wlk_s (show stp t a < s by omega)]
        rfl
    by_cases v : t a = 63
    · have v' : nI (t a) = 63 := by rw [v]; rfl
      have hs2 : stp t a = a + 2 := by unfold stp; rw [if_pos v]
      simp only [m_X5_tagBetween, ha, Option.bind_some, if_pos v', e1]
      exact fin (a + 1) (by omega) (by unfold ltr; rw [if_pos v]) (by omega)
    · have v' : ¬ nI (t a) = 63 := fun q => v ((nI_eq (b := 63) (by omega) (by omega)).mp q)
      have hs2 : stp t a = a + 1 := by unfold stp; rw [if_neg v]
      simp only [m_X5_tagBetween, ha, Option.bind_some, if_neg v']
      exact fin a (by omega) (by unfold ltr; rw [if_neg v]) (by omega)
  · have hs : a = s := by omega
    have v : t a ≠ 63 := by
      by_cases o : a < e
      · have := (Chn.part' hp.1).2.2.2
        rw [hp.2, ← hs] at this
        have := (this o).1
        omega
      · have h39 := hp.1.at
        rw [show e = a by omega] at h39
        omega
    have v' : ¬ nI (t a) = 63 := fun q => v ((nI_eq (b := 63) (by omega) (by omega)).mp q)
    have o' : ¬ nI (a + 1) = nI s := fun q => by have := (nI_eq (by omega) (by omega)).mp q; omega
    rw [wlk_nil (by omega)]
    simp only [m_X5_tagBetween, ha, Option.bind_some, if_neg v', m_X5_tagBetween_j17, e1, if_neg o', m_X5_tagBetween_j30, if_true]
    rfl
def ElC (J : Mem) (g j : Nat) (w : List Nat) : Prop := J (g + 2) j = nI w.length ∧ ∀ x, x < w.length → x < 8 → J (g + 1) (8 * j + x) = nI (w.getD x 0)
theorem getD_app {w : List Nat} {c x : Nat} (h : x < w.length) : (w ++ [c]).getD x 0 = w.getD x 0 := by
  simp only [List.getD_eq_getElem?_getD]
  rw [List.getElem?_append_left h]
theorem getD_last {w : List Nat} {c : Nat} : (w ++ [c]).getD w.length 0 = c := by simp [List.getD_eq_getElem?_getD]
theorem append_ok {J : Mem} {g j c : Nat} {w : List Nat} (hj : j < 5) (h4 : J g 4 = nI (j + 1)) (h : ElC J g j w) (hw : w.length < 300) (hc : c < 65536) :
    ∃ J', m_X9_append g (nI c) J = some J' ∧ ElC J' g j (w ++ [c]) ∧ ∀ a b, ¬ (a = g + 1 ∧ 8 * j ≤ b ∧ b < 8 * j + 8) → ¬ (a = g + 2 ∧ b = j) → J' a b = J a b := by
  obtain ⟨h1, h2⟩ := h
  have e1 : nI (j + 1) - 1 = nI j := nI_pred j
  have e2 : (0 : Int32) ≤ nI j := nI_pos' (by omega)
  have e3 : inb (nI j) 5 = true := inb_n hj (by omega)
  have e4 : (nI j).toNatClampNeg = j := nI_clamp (by omega)
  have e5 : nI w.length + 1 = nI (w.length + 1) := nI_1 _
  have e9 : ¬ g + 2 = g + 1 := by omega
  by_cases z : w.length < 8
  · have c1 : ¬ 8 ≤ nI w.length := nI_ge (b := 8) z (by omega)
    have e6 : nI j * 8 + nI w.length = nI (8 * j + w.length) := by
      have : nI j * 8 = nI (j * 8) := pk_mul j 8
      rw [this, nI_add, Nat.mul_comm]
    have e7 : inb (nI (8 * j + w.length)) 40 = true := inb_n (by omega) (by omega)
    have e8 : (nI (8 * j + w.length)).toNatClampNeg = 8 * j + w.length := nI_clamp (by omega)
    have ok := okc_n' hc
    have e10 : ms J (g + 1) (8 * j + w.length) (nI c) (g + 2) j = nI w.length := by rw [ms_o (by omega), h1]
    refine ⟨ms (ms J (g + 1) (8 * j + w.length) (nI c)) (g + 2) j (nI (w.length + 1)), by simp only [m_X9_append, h4, e1, e2, if_true, e3, gd_t, e4, h1, c1, if_false, e6, e7, e8, ok, bnd, m_X9_append_j40, e10, e5], ⟨by rw [ms_s rfl rfl]; simp, fun x hx h8 => ?_⟩, fun a b p q => by rw [ms_o (by omega), ms_o (by omega)]⟩
    rw [List.length_append] at hx
    simp only [List.length_cons, List.length_nil] at hx
    rw [ms_o (by omega)]
    by_cases o : x = w.length
    · subst o
      rw [ms_s rfl rfl, getD_last]
    · rw [ms_o (by omega), getD_app (by omega)]
      exact h2 x (by omega) h8
  · have c1 : (8 : Int32) ≤ nI w.length := nI_le (a := 8) (by omega) (by omega)
    refine ⟨ms J (g + 2) j (nI (w.length + 1)), by simp only [m_X9_append, h4, e1, e2, if_true, e3, gd_t, e4, h1, c1, m_X9_append_j40, bnd, e5], ⟨by rw [ms_s rfl rfl]; simp, fun x hx h8 => ?_⟩, fun a b p q => by rw [ms_o (by omega)]⟩
    rw [ms_o (by omega), getD_app (by omega)]
    exact h2 x (by omega) h8
theorem wlk_le {t : Nat → Nat} {p : Nat} : ∀ k a, p - a ≤ k → (wlk t p a).length ≤ p - a := by
  intro k
  induction k with
  | zero => intro a h; rw [wlk_nil (by omega)]; simp
  | succ k ih =>
    intro a h
    by_cases z : a < p
    · have hs := stp_gt t a
      have := ih (stp t a) (by omega)
      rw [wlk_s z, List.length_cons]
      omega
    · rw [wlk_nil z]; simp
def FlC (J : Mem) (F : List (Nat × Nat)) : Prop := J 29 2 = nI F.length ∧ ∀ i, i < F.length → J 30 i = nI (F.getD i (0, 0)).1 ∧ J 31 i = nI (F.getD i (0, 0)).2
theorem getD_appP {w : List (Nat × Nat)} {c : Nat × Nat} {x : Nat} (h : x < w.length) : (w ++ [c]).getD x (0, 0) = w.getD x (0, 0) := by
  simp only [List.getD_eq_getElem?_getD]
  rw [List.getElem?_append_left h]
theorem getD_lastP {w : List (Nat × Nat)} {c : Nat × Nat} : (w ++ [c]).getD w.length (0, 0) = c := by simp [List.getD_eq_getElem?_getD]
theorem FlC.add {J : Mem} {F : List (Nat × Nat)} {k p : Nat} (h : FlC J F) (hl : F.length < 141) :
    ∃ J', m_X1_add 29 (nI k) (nI p) J = some J' ∧ FlC J' (F ++ [(k, p)]) ∧ ∀ a b, ¬ (29 ≤ a ∧ a ≤ 31) → J' a b = J a b := by
  obtain ⟨h1, h2⟩ := h
  have c : ¬ 141 ≤ nI F.length := nI_ge (b := 141) hl (by omega)
  have e1 : inb (nI F.length) 141 = true := inb_n hl (by omega)
  have e2 : (nI F.length).toNatClampNeg = F.length := nI_clamp (by omega)
  have e3 : ms J 30 F.length (nI k) 29 2 = nI F.length := by rw [ms_o (by omega), h1]
  have e4 : ms (ms J 30 F.length (nI k)) 31 F.length (nI p) 29 2 = nI F.length := by rw [ms_o (by omega), e3]
  refine ⟨ms (ms (ms J 30 F.length (nI k)) 31 F.length (nI p)) 29 2 (nI F.length + 1), by simp only [m_X1_add, h1, c, if_false, e1, e2, gd_t, bnd, Nat.reduceAdd, e3, e4], ⟨by rw [ms_s rfl rfl, nI_1]; simp, fun i hi => ?_⟩, fun a b p => by rw [ms_o (by omega), ms_o (by omega), ms_o (by omega)]⟩
  rw [List.length_append] at hi
  simp only [List.length_cons, List.length_nil] at hi
  have x1 : ms (ms (ms J 30 F.length (nI k)) 31 F.length (nI p)) 29 2 (nI F.length + 1) 30 i = ms J 30 F.length (nI k) 30 i := by rw [ms_o (by omega), ms_o (by omega)]
  have x2 : ms (ms (ms J 30 F.length (nI k)) 31 F.length (nI p)) 29 2 (nI F.length + 1) 31 i = ms (ms J 30 F.length (nI k)) 31 F.length (nI p) 31 i := by rw [ms_o (by omega)]
  rw [x1, x2]
  by_cases o : i = F.length
  · subst o
    rw [ms_s rfl rfl, ms_s rfl rfl, getD_lastP]
    exact ⟨rfl, rfl⟩
  · rw [ms_o (by omega), ms_o (by omega), ms_o (by omega), getD_appP (by omega)]
    exact h2 i (by omega)
