theorem loopF_l {α β : Type} {body : α → Option (α ⊕ β)} {n : Nat} {a a' : α} (h : body a = some (.inl a')) : loopF body (n + 1) a = loopF body n a' := by simp only [loopF, h]
theorem loopF_r {α β : Type} {body : α → Option (α ⊕ β)} {n : Nat} {a : α} {b : β} (h : body a = some (.inr b)) : loopF body (n + 1) a = some b := by simp only [loopF, h]
def ShC (J : Mem) (d : Nat) (u : List Nat) : Prop := J d 1 = nI (min u.length 300) ∧ J d 2 = bz (decide (300 < u.length)) ∧ ∀ i, i < min u.length 300 → J (d + 1) i = nI (u.getD i 0)
def FrC (d : Nat) (J J' : Mem) : Prop := ∀ a b, a ≠ d → a ≠ d + 1 → J' a b = J a b
theorem FrC.tr {d : Nat} {A B C : Mem} (h : FrC d A B) (h2 : FrC d B C) : FrC d A C := fun a b x y => (h2 a b x y).trans (h a b x y)
theorem FrC.rf {d : Nat} {A : Mem} : FrC d A A := fun _ _ _ _ => rfl
def AppC (d : Nat) (J : Mem) (f : Option Mem) (u L : List Nat) : Prop := ∃ J', f = some J' ∧ ShC J' d (u ++ L) ∧ FrC d J J'
theorem getD_app_lt {u v : List Nat} {i : Nat} (h : i < u.length) : (u ++ v).getD i 0 = u.getD i 0 := by
  rw [List.getD_eq_getElem?_getD, List.getD_eq_getElem?_getD, List.getElem?_append_left h]
theorem getD_app_end {u : List Nat} {c : Nat} : (u ++ [c]).getD u.length 0 = c := by
  rw [List.getD_eq_getElem?_getD, List.getElem?_append_right (Nat.le_refl _), Nat.sub_self]
  rfl
theorem put_C {J : Mem} {d c : Nat} {u : List Nat} (h : ShC J d u) (hc : c < 65536) : AppC d J (m_X10_put d (nI c) J) u [c] := by
  obtain ⟨h1, h2, h3⟩ := h
  by_cases x : u.length < 300
  · have e0 : min u.length 300 = u.length := by omega
    rw [e0] at h1 h3
    have z3 : nI u.length < 300 := nI_lt (b := 300) x (by omega)
    have z4 : inb (nI u.length) 300 = true := inb_n x (by omega)
    have z5 : (nI u.length).toNatClampNeg = u.length := nI_clamp (by omega)
    have z6 : okc (nI c) = true := okc_n' hc
    refine ⟨ms (ms J (d + 1) u.length (nI c)) d 1 (nI u.length + 1), ?_, ⟨?_, ?_, fun i hi => ?_⟩, fun a b g1 g2 => ?_⟩
    · simp [m_X10_put, h1, z3, z4, z5, z6, gd_t, bnd, ms_app]
    · rw [ms_s rfl rfl, nI_1, List.length_append]
      congr 1
      simp
      omega
    · rw [ms_o (by omega), ms_o (by omega), h2, List.length_append]
      congr 1
      simp
      omega
    · rw [List.length_append] at hi
      simp only [List.length_cons, List.length_nil] at hi
      rw [ms_o (by omega)]
      by_cases q : i = u.length
      · subst q
        rw [ms_s rfl rfl, getD_app_end]
      · rw [ms_o (by omega), getD_app_lt (by omega), h3 i (by omega)]
    · rw [ms_o (by omega), ms_o (by omega)]
  · have e0 : min u.length 300 = 300 := by omega
    rw [e0] at h1 h3
    have z3 : ¬ nI 300 < 300 := by decide
    refine ⟨ms J d 2 1, ?_, ⟨?_, ?_, fun i hi => ?_⟩, fun a b g1 g2 => ?_⟩
    · simp [m_X10_put, h1, z3, bnd]
    · rw [ms_o (by omega), h1, List.length_append]
      congr 1
      simp
      omega
    · rw [ms_s rfl rfl, List.length_append]
      have : 300 < u.length + [c].length := by simp; omega
      simp [this, bz]
      omega
    · rw [List.length_append] at hi
      rw [ms_o (by omega), getD_app_lt (by omega), h3 i (by omega)]
    · rw [ms_o (by omega)]
theorem AppC.bind {d : Nat} {J : Mem} {f : Option Mem} {g : Mem → Option Mem} {u L1 L2 : List Nat} (h : AppC d J f u L1) (h2 : ∀ J', ShC J' d (u ++ L1) → FrC d J J' → AppC d J' (g J') (u ++ L1) L2) : AppC d J (Option.bind f g) u (L1 ++ L2) := by
  obtain ⟨J', e1, e2, e3⟩ := h
  obtain ⟨J2, d1, d2, d3⟩ := h2 J' e2 e3
  exact ⟨J2, by rw [e1]; exact d1, by rw [← List.append_assoc]; exact d2, e3.tr d3⟩
theorem AppC.nil {d : Nat} {J : Mem} {u : List Nat} (h : ShC J d u) : AppC d J (some J) u [] := ⟨J, rfl, by rw [List.append_nil]; exact h, FrC.rf⟩
def dg (n u : Nat) : Nat := 48 + n / u % 10
def numL (n : Nat) : List Nat := if n < 10 then [dg n 1] else if n < 100 then [dg n 10, dg n 1] else if n < 1000 then [dg n 100, dg n 10, dg n 1] else [dg n 1000, dg n 100, dg n 10, dg n 1]
theorem dg_val {n u : Nat} (hn : n < 10000) (h0 : 0 < u) (hu : u < 10000) : ((48 + (nI n / nI u - nI n / nI u / 10 * 10)).toUInt32 % 65536).toInt32 = nI (dg n u) := by
  have e1 : nI n / nI u = nI (n / u) := pk_div (by omega) h0 (by omega)
  have hq : n / u ≤ n := Nat.div_le_self _ _
  have e2 : nI (n / u) - nI (n / u) / 10 * 10 = nI (n / u % 10) := pk_rem (a := n / u) (d := 10) (by omega) (by omega) (by omega)
  have e3 : (48 : Int32) + nI (n / u % 10) = nI (48 + n / u % 10) := nI_add 48 _
  rw [e1, e2, e3, pk_char, pk_tn (by omega), Nat.mod_eq_of_lt (by omega)]
  rfl
theorem dg_lt {n u : Nat} : dg n u < 65536 := by unfold dg; omega
theorem num_C {J : Mem} {d n : Nat} {u : List Nat} (h : ShC J d u) (h1 : 1 ≤ n) (hn : n ≤ 9999) : AppC d J (m_X10_putNumber d (nI n) J) u (numL n) := by
  have dig : ∀ (J : Mem) (u : List Nat) (k : Nat), ShC J d u → 0 < k → k < 10000 → (k ≤ n ∨ k = 1) → ∃ J', m_X10_putNumber_b4 d (nI n) (nI k) J = some (.inl (nI k / 10, J')) ∧ ShC J' d (u ++ [dg n k]) ∧ FrC d J J' := by
    intro J u k hs h0 hk hor
    obtain ⟨J', e1, e2, e3⟩ := put_C hs (dg_lt (n := n) (u := k))
    have g1 : ¬ nI k ≤ 0 := nI_nle h0 (by omega)
    have g2 : ¬ nI k = 0 := nI_ne0 h0 (by omega)
    refine ⟨J', ?_, e2, e3⟩
    have hj : m_X10_putNumber_j18 d (nI n) (nI k) J = some (.inl (nI k / 10, J')) := by
      unfold m_X10_putNumber_j18
      rw [dg_val (n := n) (by omega) h0 hk, e1]
      simp [g2, gd_t, m_X10_putNumber_j32]
    by_cases hle : k ≤ n
    · have g3 : nI k ≤ nI n := nI_le hle (by omega)
      simp [m_X10_putNumber_b4, g1, g3, hj]
    · have hk1 : k = 1 := by omega
      have g3 : ¬ nI k ≤ nI n := nI_ge (by omega) (by omega)
      have g4 : nI k = 1 := by rw [hk1]; rfl
      rw [g4] at hj g1 g3 ⊢
      simp [m_X10_putNumber_b4, g1, g3, hj]
  have skip : ∀ (J : Mem) (k : Nat), 1 < k → k < 10000 → n < k → m_X10_putNumber_b4 d (nI n) (nI k) J = some (.inl (nI k / 10, J)) := by
    intro J k h0 hk hlt
    have g1 : ¬ nI k ≤ 0 := nI_nle (by omega) (by omega)
    have g3 : ¬ nI k ≤ nI n := nI_ge hlt (by omega)
    have g4 : ¬ nI k = 1 := fun z => absurd ((nI_eq (b := 1) (by omega) (by omega)).mp z) (by omega)
    simp [m_X10_putNumber_b4, g1, g3, g4, m_X10_putNumber_j32]
  have fin : ∀ J : Mem, m_X10_putNumber_b4 d (nI n) 0 J = some (.inr J) := fun J => by simp [m_X10_putNumber_b4]
  have k1 : nI 1000 / 10 = nI 100 := by decide
  have k2 : nI 100 / 10 = nI 10 := by decide
  have k3 : nI 10 / 10 = nI 1 := by decide
  have k4 : nI 1 / 10 = 0 := by decide
  have hFU : FU = 99995 + 5 := rfl
  have key : ∀ J', loopF (fun a => m_X10_putNumber_b4 d (nI n) a.1 a.2) (99995 + 5) (nI 1000, J) = some J' → m_X10_putNumber d (nI n) J = some J' := fun J' h => by
    unfold m_X10_putNumber
    rw [hFU]
    have : loopF (fun a => m_X10_putNumber_b4 d (nI n) a.1 a.2) (99995 + 5) ((1000 : Int32), J) = some J' := h
    rw [this]
    rfl
  unfold numL
  by_cases c1 : n < 10
  · rw [if_pos c1]
    obtain ⟨J1, a1, a2, a3⟩ := dig J u 1 h (by omega) (by omega) (Or.inr rfl)
    refine ⟨J1, key J1 ?_, a2, a3⟩
    rw [loopF_l (skip J 1000 (by omega) (by omega) (by omega)), k1, loopF_l (skip J 100 (by omega) (by omega) (by omega)), k2, loopF_l (skip J 10 (by omega) (by omega) (by omega)), k3, loopF_l a1, k4, loopF_r (fin J1)]
  rw [if_neg c1]
  by_cases c2 : n < 100
  · rw [if_pos c2]
    obtain ⟨J1, a1, a2, a3⟩ := dig J u 10 h (by omega) (by omega) (Or.inl (by omega))
    obtain ⟨J2, b1, b2, b3⟩ := dig J1 _ 1 a2 (by omega) (by omega) (Or.inr rfl)
    refine ⟨J2, key J2 ?_, by simpa using b2, a3.tr b3⟩
    rw [loopF_l (skip J 1000 (by omega) (by omega) (by omega)), k1, loopF_l (skip J 100 (by omega) (by omega) (by omega)), k2, loopF_l a1, k3, loopF_l b1, k4, loopF_r (fin J2)]
  rw [if_neg c2]
  by_cases c3 : n < 1000
  · rw [if_pos c3]
    obtain ⟨J1, a1, a2, a3⟩ := dig J u 100 h (by omega) (by omega) (Or.inl (by omega))
    obtain ⟨J2, b1, b2, b3⟩ := dig J1 _ 10 a2 (by omega) (by omega) (Or.inl (by omega))
    obtain ⟨J3, d1, d2, d3⟩ := dig J2 _ 1 b2 (by omega) (by omega) (Or.inr rfl)
    refine ⟨J3, key J3 ?_, by simpa using d2, (a3.tr b3).tr d3⟩
    rw [loopF_l (skip J 1000 (by omega) (by omega) (by omega)), k1, loopF_l a1, k2, loopF_l b1, k3, loopF_l d1, k4, loopF_r (fin J3)]
  rw [if_neg c3]
  obtain ⟨J1, a1, a2, a3⟩ := dig J u 1000 h (by omega) (by omega) (Or.inl (by omega))
  obtain ⟨J2, b1, b2, b3⟩ := dig J1 _ 100 a2 (by omega) (by omega) (Or.inl (by omega))
  obtain ⟨J3, d1, d2, d3⟩ := dig J2 _ 10 b2 (by omega) (by omega) (Or.inl (by omega))
  obtain ⟨J4, f1, f2, f3⟩ := dig J3 _ 1 d2 (by omega) (by omega) (Or.inr rfl)
  refine ⟨J4, key J4 ?_, by simpa using f2, ((a3.tr b3).tr d3).tr f3⟩
  rw [loopF_l a1, k1, loopF_l b1, k2, loopF_l d1, k3, loopF_l f1, k4, loopF_r (fin J4)]
