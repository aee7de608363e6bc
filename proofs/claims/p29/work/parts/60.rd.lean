def stp (t : Nat → Nat) (a : Nat) : Nat := a + (if t a = 63 then 2 else 1)
def skpF (t : Nat → Nat) (c lim : Nat) : Nat → Nat → Nat
  | 0, a => a
  | f + 1, a => if a < lim ∧ t a ≠ c then skpF t c lim f (stp t a) else a
def skp (t : Nat → Nat) (c lim a : Nat) : Nat := skpF t c lim lim a
theorem stp_gt (t : Nat → Nat) (a : Nat) : a < stp t a ∧ stp t a ≤ a + 2 := by unfold stp; split <;> omega
theorem skpF_irr {t : Nat → Nat} {c lim : Nat} : ∀ (f g a : Nat), lim - a ≤ f → lim - a ≤ g → skpF t c lim f a = skpF t c lim g a := by
  intro f
  induction f with
  | zero =>
    intro g a h1 h2
    cases g with
    | zero => rfl
    | succ g => simp only [skpF]; rw [if_neg (by omega)]
  | succ f ih =>
    intro g a h1 h2
    have hs := stp_gt t a
    cases g with
    | zero => simp only [skpF]; rw [if_neg (by omega)]
    | succ g =>
      simp only [skpF]
      split
      · exact ih g _ (by omega) (by omega)
      · rfl
theorem skp_eq (t : Nat → Nat) (c lim a : Nat) : skp t c lim a = if a < lim ∧ t a ≠ c then skp t c lim (stp t a) else a := by
  have hs := stp_gt t a
  unfold skp
  cases lim with
  | zero => simp [skpF]
  | succ l =>
    show (if a < l + 1 ∧ t a ≠ c then skpF t c (l + 1) l (stp t a) else a) = _
    split
    · exact skpF_irr l (l + 1) _ (by omega) (by omega)
    · rfl
theorem skp_stop {t : Nat → Nat} {c lim a : Nat} (h : ¬ (a < lim ∧ t a ≠ c)) : skp t c lim a = a := by rw [skp_eq, if_neg h]
theorem skp_go {t : Nat → Nat} {c lim a : Nat} (h1 : a < lim) (h2 : t a ≠ c) : skp t c lim a = skp t c lim (stp t a) := by rw [skp_eq, if_pos ⟨h1, h2⟩]
theorem skp_ge {t : Nat → Nat} {c lim : Nat} : ∀ (k a : Nat), lim - a ≤ k → a ≤ skp t c lim a ∧ (skp t c lim a < lim → t (skp t c lim a) = c) ∧ (a ≤ lim → skp t c lim a ≤ lim + 1) := by
  intro k
  induction k with
  | zero => intro a h; rw [skp_stop (by omega)]; omega
  | succ k ih =>
    intro a h
    have hs := stp_gt t a
    by_cases x : a < lim ∧ t a ≠ c
    · rw [skp_go x.1 x.2]
      by_cases y : stp t a ≤ lim
      · have := ih (stp t a) (by omega); exact ⟨by omega, this.2.1, fun _ => this.2.2 y⟩
      · rw [skp_stop (by omega)]; omega
    · rw [skp_stop x]
      refine ⟨by omega, fun hlt => ?_, by omega⟩
      exact Classical.byContradiction fun hne => x ⟨hlt, hne⟩
def Chn (t : Nat → Nat) (n e a : Nat) : Prop := skp t 39 n a = e ∧ e < n
theorem Chn.le {t : Nat → Nat} {n e a : Nat} (h : Chn t n e a) : a ≤ e := by have := (skp_ge (t := t) (c := 39) (lim := n) n a (by omega)).1; rw [h.1] at this; exact this
theorem Chn.at {t : Nat → Nat} {n e a : Nat} (h : Chn t n e a) : t e = 39 := by have := (skp_ge (t := t) (c := 39) (lim := n) n a (by omega)).2.1; rw [h.1] at this; exact this h.2
theorem Chn.step {t : Nat → Nat} {n e a : Nat} (h : Chn t n e a) (ha : a < e) : Chn t n e (stp t a) ∧ t a ≠ 39 := by
  have hne : t a ≠ 39 := fun z => by
    have := h.1
    rw [skp_stop (by omega)] at this
    omega
  have hlt := h.2
  refine ⟨⟨?_, hlt⟩, hne⟩
  rw [← skp_go (by omega) hne]
  exact h.1
theorem Chn.part {t : Nat → Nat} {n e : Nat} : ∀ (k a : Nat), e - a ≤ k → Chn t n e a → Chn t n e (skp t 43 e a) := by
  intro k
  induction k with
  | zero => intro a h1 h; rw [skp_stop (by omega)]; exact h
  | succ k ih =>
    intro a h1 h
    by_cases x : a < e ∧ t a ≠ 43
    · rw [skp_go x.1 x.2]
      have hs := stp_gt t a
      exact ih _ (by omega) (h.step x.1).1
    · rw [skp_stop x]; exact h
theorem Chn.part' {t : Nat → Nat} {n e a : Nat} (h : Chn t n e a) : Chn t n e (skp t 43 e a) ∧ a ≤ skp t 43 e a ∧ skp t 43 e a ≤ e ∧ (skp t 43 e a < e → t (skp t 43 e a) = 43 ∧ Chn t n e (skp t 43 e a + 1)) := by
  have h1 := Chn.part e a (by omega) h
  have h2 := skp_ge (t := t) (c := 43) (lim := e) e a (by omega)
  refine ⟨h1, h2.1, h1.le, fun hlt => ⟨h2.2.1 hlt, ?_⟩⟩
  have := (h1.step hlt).1
  have e2 : stp t (skp t 43 e a) = skp t 43 e a + 1 := by unfold stp; rw [if_neg (by rw [h2.2.1 hlt]; omega)]
  rw [e2] at this
  exact this
def wlkF (t : Nat → Nat) (p : Nat) : Nat → Nat → List Nat
  | 0, _ => []
  | f + 1, a => if a < p then (if t a = 63 then t (a + 1) else t a) :: wlkF t p f (stp t a) else []
def wlk (t : Nat → Nat) (p a : Nat) : List Nat := wlkF t p p a
theorem wlkF_irr {t : Nat → Nat} {p : Nat} : ∀ (f g a : Nat), p - a ≤ f → p - a ≤ g → wlkF t p f a = wlkF t p g a := by
  intro f
  induction f with
  | zero =>
    intro g a h1 h2
    cases g with
    | zero => rfl
    | succ g => simp only [wlkF]; rw [if_neg (by omega)]
  | succ f ih =>
    intro g a h1 h2
    have hs := stp_gt t a
    cases g with
    | zero => simp only [wlkF]; rw [if_neg (by omega)]
    | succ g =>
      simp only [wlkF]
      split
      · rw [ih g _ (by omega) (by omega)]
      · rfl
theorem wlk_nil {t : Nat → Nat} {p a : Nat} (h : ¬ a < p) : wlk t p a = [] := by
  unfold wlk
  cases p with
  | zero => rfl
  | succ p => simp only [wlkF]; rw [if_neg h]
theorem wlk_go {t : Nat → Nat} {p a : Nat} (h : a < p) : wlk t p a = (if t a = 63 then t (a + 1) else t a) :: wlk t p (stp t a) := by
  have hs := stp_gt t a
  unfold wlk
  cases p with
  | zero => omega
  | succ p =>
    show (if a < p + 1 then _ :: wlkF t (p + 1) p (stp t a) else []) = _
    rw [if_pos h, wlkF_irr p (p + 1) _ (by omega) (by omega)]
def TxC (J : Mem) (t : Nat → Nat) (n : Nat) : Prop := n ≤ 300 ∧ J 27 1 = nI n ∧ ∀ i, i < n → 32 ≤ t i ∧ t i ≤ 126 ∧ J 28 i = nI (t i)
theorem TxC.at {J : Mem} {t : Nat → Nat} {n a : Nat} (h : TxC J t n) (ha : a < n) : m_X10_at 27 (nI a) J = some (nI (t a)) :=
  at_ok h.1 ha h.2.1 (h.2.2 a ha).2.2 (by have := h.2.2 a ha; omega)
theorem eqc {q k : Nat} (hq : q < 65536) (hk : k < 65536) : (nI q = nI k) = (q = k) := propext (nI_eq (by omega) (by omega))
theorem segmentEnd_ok {J : Mem} {t : Nat → Nat} {n a : Nat} (h : TxC J t n) (ha : a ≤ n) : m_X5_segmentEnd 27 (nI a) J = some (nI (skp t 39 n a)) := by
  have hn := h.1
  obtain ⟨b, e1, e2⟩ := loop_run (body := fun a => m_X5_segmentEnd_b2 27 a J) (Inv := fun r x => ∃ y, y ≤ n + 1 ∧ r = n + 1 - y ∧ x = nI y ∧ skp t 39 n y = skp t 39 n a) (Post := fun b => b = nI (skp t 39 n a)) (fun r x ⟨y, hy, hr, hx, hs⟩ => by
    subst hx
    by_cases z : y < n
    · have g1 : ¬ nI n ≤ nI y := nI_ge z (by omega)
      have g2 := h.at z
      have g3 := h.2.2 y z
      have q39 : (nI (t y) = 39) = (t y = 39) := eqc (k := 39) (by omega) (by omega)
      have q63 : (nI (t y) = 63) = (t y = 63) := eqc (k := 63) (by omega) (by omega)
      by_cases w : t y = 39
      · have w' : nI (t y) = 39 := by rw [w]; rfl
        refine Or.inl ⟨nI y, by simp [m_X5_segmentEnd_b2, m_X10_count, h.2.1, g1, g2, w'], ?_⟩
        rw [← hs, skp_stop (by omega)]
      · have w' : ¬ nI (t y) = 39 := fun h => w (q39.mp h)
        have hst := stp_gt t y
        refine Or.inr ⟨nI (stp t y), n + 1 - stp t y, by omega, ?_, stp t y, by omega, rfl, rfl, by rw [← hs, skp_go z w]⟩
        by_cases v : t y = 63
        · have v' : nI (t y) = 63 := by rw [v]; rfl
          have : nI y + 2 = nI (stp t y) := by unfold stp; rw [if_pos v]; exact nI_add y 2
          simp [m_X5_segmentEnd_b2, m_X10_count, h.2.1, g1, g2, w', v', m_X5_segmentEnd_j36, this]
        · have v' : ¬ nI (t y) = 63 := fun h => v (q63.mp h)
          have : nI y + 1 = nI (stp t y) := by unfold stp; rw [if_neg v]; exact nI_1 y
          simp [m_X5_segmentEnd_b2, m_X10_count, h.2.1, g1, g2, w', v', m_X5_segmentEnd_j36, this]
    · have g1 : nI n ≤ nI y := nI_le (by omega) (by omega)
      refine Or.inl ⟨nI y, by simp [m_X5_segmentEnd_b2, m_X10_count, h.2.1, g1], ?_⟩
      rw [← hs, skp_stop (by omega)]) FU (n + 1 - a) (nI a) (by unfold FU; omega) ⟨a, by omega, rfl, rfl, rfl⟩
  subst e2
  simp [m_X5_segmentEnd, e1]
theorem partEnd_ok {J : Mem} {t : Nat → Nat} {n e a : Nat} (h : TxC J t n) (he : e ≤ n) (ha : a ≤ e) : m_X5_partEnd 27 (nI a) (nI e) J = some (nI (skp t 43 e a)) := by
  have hn := h.1
  obtain ⟨b, e1, e2⟩ := loop_run (body := fun a => m_X5_partEnd_b2 27 (nI e) a J) (Inv := fun r x => ∃ y, y ≤ e + 1 ∧ r = e + 1 - y ∧ x = nI y ∧ skp t 43 e y = skp t 43 e a) (Post := fun b => b = nI (skp t 43 e a)) (fun r x ⟨y, hy, hr, hx, hs⟩ => by
    subst hx
    by_cases z : y < e
    · have g1 : ¬ nI e ≤ nI y := nI_ge z (by omega)
      have g2 := h.at (show y < n by omega)
      have g3 := h.2.2 y (by omega)
      have q43 : (nI (t y) = 43) = (t y = 43) := eqc (k := 43) (by omega) (by omega)
      have q63 : (nI (t y) = 63) = (t y = 63) := eqc (k := 63) (by omega) (by omega)
      by_cases w : t y = 43
      · have w' : nI (t y) = 43 := by rw [w]; rfl
        refine Or.inl ⟨nI y, by simp [m_X5_partEnd_b2, g1, g2, w'], ?_⟩
        rw [← hs, skp_stop (by omega)]
      · have w' : ¬ nI (t y) = 43 := fun h => w (q43.mp h)
        have hst := stp_gt t y
        refine Or.inr ⟨nI (stp t y), e + 1 - stp t y, by omega, ?_, stp t y, by omega, rfl, rfl, by rw [← hs, skp_go z w]⟩
        by_cases v : t y = 63
        · have v' : nI (t y) = 63 := by rw [v]; rfl
          have : nI y + 2 = nI (stp t y) := by unfold stp; rw [if_pos v]; exact nI_add y 2
          simp [m_X5_partEnd_b2, g1, g2, w', v', m_X5_partEnd_j33, this]
        · have v' : ¬ nI (t y) = 63 := fun h => v (q63.mp h)
          have : nI y + 1 = nI (stp t y) := by unfold stp; rw [if_neg v]; exact nI_1 y
          simp [m_X5_partEnd_b2, g1, g2, w', v', m_X5_partEnd_j33, this]
    · have g1 : nI e ≤ nI y := nI_le (by omega) (by omega)
      refine Or.inl ⟨nI y, by simp [m_X5_partEnd_b2, g1], ?_⟩
      rw [← hs, skp_stop (by omega)]) FU (e + 1 - a) (nI a) (by unfold FU; omega) ⟨a, by omega, rfl, rfl, rfl⟩
  subst e2
  simp [m_X5_partEnd, e1]
