def nmF : List Nat → Nat → Option Nat
  | [], v => some v
  | c :: l, v => if 48 ≤ c ∧ c ≤ 57 then nmF l (10 * v + (c - 48)) else none
def num (w : List Nat) : Option Nat := if 1 ≤ w.length ∧ w.length ≤ 4 then nmF w 0 else none
def nmv : Option Nat → Int32
  | some v => nI v
  | none => -1
theorem nmF_lt : ∀ (w : List Nat) (v k r : Nat), v < 10 ^ k → nmF w v = some r → r < 10 ^ (k + w.length) := by
  intro w
  induction w with
  | nil => intro v k r h hr; simp only [nmF, Option.some.injEq] at hr; subst hr; simpa using h
  | cons c l ih =>
    intro v k r h hr
    simp only [nmF] at hr
    split at hr
    · have := ih (10 * v + (c - 48)) (k + 1) r (by rw [Nat.pow_succ]; omega) hr
      rwa [show k + 1 + l.length = k + (c :: l).length by simp; omega] at this
    · cases hr
theorem num_lt {w : List Nat} {r : Nat} (h : num w = some r) : r < 10000 := by
  unfold num at h
  split at h
  · rename_i q
    have := nmF_lt w 0 0 r (by omega) h
    rw [Nat.zero_add] at this
    have h4 : 10 ^ w.length ≤ 10 ^ 4 := Nat.pow_le_pow_right (by omega) q.2
    omega
  · cases h
theorem nI_m1 {v : Nat} (h : v < 2 ^ 31) : ¬ nI v = -1 := fun q => by
  have := nI_pos h
  rw [q] at this
  exact this (by decide)
theorem nmv_n {o : Option Nat} (h : ∀ r, o = some r → r < 10000) : (nmv o = -1 ↔ o.isSome = false) ∧ (0 ≤ nmv o ↔ o.isSome = true) := by
  cases o with
  | none => exact ⟨by simp [nmv], by simp [nmv]⟩
  | some r =>
    have := h r rfl
    exact ⟨by simp only [nmv, Option.isSome_some]; exact ⟨fun q => absurd q (nI_m1 (by omega)), fun q => by cases q⟩, by simp only [nmv, Option.isSome_some, iff_true]; exact nI_pos' (by omega)⟩
def LB (w : List Nat) : Prop := ∀ c ∈ w, 32 ≤ c ∧ c ≤ 126
theorem LB.at {w : List Nat} (h : LB w) {x : Nat} (hx : x < w.length) : 32 ≤ w.getD x 0 ∧ w.getD x 0 ≤ 126 := h _ (getD_mem hx)
def SgB (S : Sg) : Prop := S.2.2.length ≤ 5 ∧ LB S.2.1 ∧ ∀ w ∈ S.2.2, LB w
theorem SgB.el {S : Sg} (h : SgB S) {j : Nat} (hj : j < S.2.2.length) : LB (S.2.2.getD j []) := by
  refine h.2.2 _ ?_
  rw [List.getD_eq_getElem?_getD, List.getElem?_eq_getElem hj]
  exact List.getElem_mem hj
theorem wlk_LB {t : Nat → Nat} {n e s : Nat} (ht : ∀ i, i < n → 32 ≤ t i ∧ t i ≤ 126) : ∀ f y, s - y ≤ f → Prt t n e s y → LB (wlk t s y) := by
  intro f
  induction f with
  | zero => intro y hy hp c hc; rw [wlk_nil (by omega)] at hc; simp at hc
  | succ f ih =>
    intro y hy hp c hc
    by_cases z : y < s
    · obtain ⟨p1, p2, p3, p4⟩ := hp.step z
      have hst := stp_gt t y
      rw [wlk_s z, List.mem_cons] at hc
      rcases hc with hc | hc
      · have hle2 := hp.le
        unfold ltr at hc
        split at hc
        · rename_i v
          have : stp t y = y + 2 := by unfold stp; rw [if_pos v]
          have := ht (y + 1) (by omega)
          omega
        · have := ht y (by omega)
          omega
      · exact ih _ (by omega) p3 c hc
    · rw [wlk_nil z] at hc; simp at hc
theorem elP_LB {t : Nat → Nat} {n e : Nat} (ht : ∀ i, i < n → 32 ≤ t i ∧ t i ≤ 126) : ∀ f p, (p < e → Chn t n e (p + 1)) → ∀ w ∈ elP t e f p, LB w := by
  intro f
  induction f with
  | zero => intro p _ w hw; simp [elP] at hw
  | succ f ih =>
    intro p hp w hw
    rw [elP_s] at hw
    split at hw
    · rename_i z
      rw [List.mem_cons] at hw
      rcases hw with hw | hw
      · subst hw
        exact wlk_LB ht _ _ (Nat.le_refl _) (Prt.start (hp z))
      · exact ih _ (fun q => ((Chn.part' (hp z)).2.2.2 q).2) w hw
    · simp at hw
theorem spS_B {t : Nat → Nat} {n : Nat} (ht : ∀ i, i < n → 32 ≤ t i ∧ t i ≤ 126) : ∀ f a, ∀ S ∈ spS t n f a, SgB S := by
  intro f
  induction f with
  | zero => intro a S hS; simp [spS] at hS
  | succ f ih =>
    intro a S hS
    rw [spS_s] at hS
    split at hS
    · split at hS
      · rename_i z y
        rw [List.mem_cons] at hS
        rcases hS with hS | hS
        · subst hS
          have hc : Chn t n (skp t 39 n a) a := ⟨rfl, y⟩
          exact ⟨elP_len 5 _, wlk_LB ht _ _ (Nat.le_refl _) (Prt.start hc), elP_LB ht 5 _ (fun q => ((Chn.part' hc).2.2.2 q).2)⟩
        · exact ih _ S hS
      · simp at hS
    · simp at hS
theorem elF_nil {t : Nat → Nat} {e : Nat} : ∀ f p, elF t e f p = [] → ∀ w ∈ elP t e f p, w.length ≤ 8 := by
  intro f
  induction f with
  | zero => intro p _ w hw; simp [elP] at hw
  | succ f ih =>
    intro p hp w hw
    rw [elF_s] at hp
    rw [elP_s] at hw
    split at hw
    · rename_i z
      rw [if_pos z, List.append_eq_nil_iff] at hp
      rw [List.mem_cons] at hw
      rcases hw with hw | hw
      · subst hw
        have := hp.1
        split at this
        · simp at this
        · omega
      · exact ih _ hp.2 w hw
    · simp at hw
theorem spF_nil {t : Nat → Nat} {n : Nat} : ∀ f a, spF t n f a = [] → ∀ S ∈ spS t n f a, okt S.2.1 = true ∧ ∀ w ∈ S.2.2, w.length ≤ 8 := by
  intro f
  induction f with
  | zero => intro a _ S hS; simp [spS] at hS
  | succ f ih =>
    intro a hF S hS
    rw [spF_s] at hF
    rw [spS_s] at hS
    split at hS
    · rename_i z
      rw [if_pos z] at hF
      split at hS
      · rename_i y
        rw [if_pos y, List.append_eq_nil_iff] at hF
        rw [List.mem_cons] at hS
        rcases hS with hS | hS
        · subst hS
          have h1 := hF.1
          unfold sgF at h1
          rw [List.append_eq_nil_iff] at h1
          refine ⟨?_, elF_nil 5 _ h1.2⟩
          have h2 := h1.1
          split at h2
          · assumption
          · simp at h2
        · exact ih _ hF.2 S hS
      · simp at hS
    · simp at hS
theorem spS_len {t : Nat → Nat} {n : Nat} : ∀ f a, (spS t n f a).length ≤ f := by
  intro f
  induction f with
  | zero => intro a; simp [spS]
  | succ f ih =>
    intro a
    have := ih (skp t 39 n a + 1)
    rw [spS_s]
    split
    · split
      · simp; omega
      · simp
    · simp
theorem drop_c {w : List Nat} {x : Nat} (h : x < w.length) : w.drop x = w.getD x 0 :: w.drop (x + 1) := by
  rw [List.drop_eq_getElem_cons h, List.getD_eq_getElem?_getD, List.getElem?_eq_getElem h]
  rfl
theorem numC {J : Mem} {g e : Nat} {E : List (List Nat)} (h : SgC J g E) (h5 : E.length ≤ 5) (he : e < E.length) (hB : LB (E.getD e [])) (hl : (E.getD e []).length ≤ 8) : m_X9_numberIn g (nI e) J = some (nmv (num (E.getD e []))) := by
  obtain ⟨h1, h2⟩ := h
  obtain ⟨k1, k2⟩ := h2 e he
  obtain ⟨w, hw⟩ : ∃ w, w = E.getD e [] := ⟨_, rfl⟩
  rw [← hw] at k1 k2 hB hl ⊢
  have cnt := countIn_ok h5 he h1 k1
  by_cases a : w.length < 1
  · have c : nI w.length < 1 := nI_lt (b := 1) a (by omega)
    simp only [m_X9_numberIn, cnt, Option.bind_some, c, if_true]
    unfold num
    rw [if_neg (by omega)]
    rfl
  · unfold num
    by_cases b : w.length ≤ 4
    · have c : ¬ nI w.length < 1 := nI_nlt (b := 1) (by omega) (by omega)
      have c2 : nI w.length ≤ 4 := nI_le (b := 4) b (by omega)
      rw [if_pos ⟨by omega, b⟩]
      obtain ⟨r, f1, f2⟩ := loop_run (body := fun x => m_X9_numberIn_b23 g (nI e) (nI w.length) x.1 x.2 J)
        (Inv := fun r x => ∃ y v, y ≤ w.length ∧ r = w.length - y ∧ x.2 = nI y ∧ x.1 = nI v ∧ v < 10 ^ y ∧ nmF (w.drop y) v = nmF w 0) (Post := fun b => b = nmv (nmF w 0)) (fun r x ⟨y, v, g1, g2, g3, g4, g5, g6⟩ => by
          obtain ⟨x3, x4⟩ := x
          simp only at g3 g4
          subst g3
          subst g4
          by_cases z : y = w.length
          · have cc : nI w.length ≤ nI y := nI_le (by omega) (by omega)
            refine Or.inl ⟨nI v, by simp only [m_X9_numberIn_b23, cc, if_true], ?_⟩
            rw [z, List.drop_length] at g6
            rw [← g6]
            rfl
          · have hy : y < w.length := by omega
            have cc : ¬ nI w.length ≤ nI y := nI_ge hy (by omega)
            have lt := hB.at hy
            have lI : m_X9_letterIn g (nI e) (nI y) J = some (nI (w.getD y 0)) := by
              have e2 := k2 y hy (by omega)
              -- countIn and the letter
              have z0 : ¬ nI y < 0 := nI_pos (by omega)
              have z2 : ¬ 8 ≤ nI y := nI_ge (b := 8) (by omega) (by omega)
              have z3 : nI e * 8 + nI y = nI (8 * e + y) := by
                have : nI e * 8 = nI (e * 8) := pk_mul e 8
                rw [this, nI_add, Nat.mul_comm]
              have z4 : inb (nI (8 * e + y)) 40 = true := inb_n (by omega) (by omega)
              have z5 : (nI (8 * e + y)).toNatClampNeg = 8 * e + y := nI_clamp (by omega)
              have z6 := okc_n' (show w.getD y 0 < 65536 by omega)
              have n10 : ¬ (1 : Int32) = 0 := by decide
              simp only [m_X9_letterIn, z0, if_false, cnt, Option.bind_some, cc, z2, m_X9_letterIn_j24, n10, z3, z4, z5, gd_t, e2, z6]
            rw [drop_c hy] at g6
            simp only [nmF] at g6
            have e3 : nI y + 1 = nI (y + 1) := nI_1 y
            have p4 : 10 ^ y ≤ 10 ^ 4 := Nat.pow_le_pow_right (by omega) (by omega)
            by_cases d : 48 ≤ w.getD y 0
            · have d1 : ¬ nI (w.getD y 0) < 48 := nI_nlt (b := 48) d (by omega)
              by_cases d2 : w.getD y 0 ≤ 57
              · have d3 : nI (w.getD y 0) ≤ 57 := nI_le (b := 57) d2 (by omega)
                rw [if_pos ⟨d, d2⟩] at g6
                have e4 : nI v * 10 + (nI (w.getD y 0) - 48) = nI (10 * v + (w.getD y 0 - 48)) := by
                  have a1 : nI v * 10 = nI (v * 10) := pk_mul v 10
                  have a2 : nI (w.getD y 0) - 48 = nI (w.getD y 0 - 48) := pk_sub (b := 48) d
                  rw [a1, a2, nI_add, Nat.mul_comm]
                exact Or.inr ⟨(nI (10 * v + (w.getD y 0 - 48)), nI (y + 1)), w.length - (y + 1), by omega, by simp only [m_X9_numberIn_b23, cc, if_false, lI, Option.bind_some, d1, d3, if_true, e4, e3], y + 1, _, by omega, rfl, rfl, rfl, by rw [Nat.pow_succ]; omega, g6⟩
              · have d3 : ¬ nI (w.getD y 0) ≤ 57 := nI_ge (a := 57) (by omega) (by omega)
                rw [if_neg (by omega)] at g6
                exact Or.inl ⟨-1, by simp only [m_X9_numberIn_b23, cc, if_false, lI, Option.bind_some, d1, d3], by rw [← g6]; rfl⟩
            · have d1 : nI (w.getD y 0) < 48 := nI_lt (b := 48) (by omega) (by omega)
              rw [if_neg (by omega)] at g6
              exact Or.inl ⟨-1, by simp only [m_X9_numberIn_b23, cc, if_false, lI, Option.bind_some, d1, if_true], by rw [← g6]; rfl⟩) FU w.length ((0 : Int32), (0 : Int32)) (by unfold FU; omega) ⟨0, 0, by omega, rfl, rfl, rfl, by omega, rfl⟩
      simp only [m_X9_numberIn, cnt, Option.bind_some, c, if_false, c2, if_true, f1, f2]
    · have c : ¬ nI w.length < 1 := nI_nlt (b := 1) (by omega) (by omega)
      have c2 : ¬ nI w.length ≤ 4 := nI_ge (a := 4) (by omega) (by omega)
      rw [if_neg (fun h => b h.2)]
      simp only [m_X9_numberIn, cnt, Option.bind_some, c, if_false, c2]
      rfl
