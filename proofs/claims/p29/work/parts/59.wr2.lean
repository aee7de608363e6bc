theorem loop_C {d n : Nat} {F : Nat → List Nat} {body : Int32 × Mem → Option ((Int32 × Mem) ⊕ Mem)} {J0 : Mem} (hn : n < 1000)
    (hstep : ∀ x J u, x < n → ShC J d u → FrC d J0 J → ∃ J', body (nI x, J) = some (.inl (nI (x + 1), J')) ∧ ShC J' d (u ++ F x) ∧ FrC d J J') (hend : ∀ J, FrC d J0 J → body (nI n, J) = some (.inr J)) :
    ∀ J u, ShC J d u → FrC d J0 J → AppC d J (loopF body FU (nI 0, J)) u ((List.range n).flatMap F) := by
  have go : ∀ (r x f : Nat) (J : Mem) (u : List Nat), x + r = n → r < f → ShC J d u → FrC d J0 J → AppC d J (loopF body f (nI x, J)) u ((List.range' x r).flatMap F) := by
    intro r
    induction r with
    | zero =>
      intro x f J u h1 h2 hs hf
      obtain ⟨k, rfl⟩ : ∃ k, f = k + 1 := ⟨f - 1, by omega⟩
      have : x = n := by omega
      subst this
      exact ⟨J, loopF_r (hend J hf), by simpa using hs, FrC.rf⟩
    | succ r ih =>
      intro x f J u h1 h2 hs hf
      obtain ⟨k, rfl⟩ : ∃ k, f = k + 1 := ⟨f - 1, by omega⟩
      obtain ⟨J', e1, e2, e3⟩ := hstep x J u (by omega) hs hf
      obtain ⟨J2, d1, d2, d3⟩ := ih (x + 1) k J' (u ++ F x) (by omega) (by omega) e2 (hf.tr e3)
      exact ⟨J2, by rw [loopF_l e1]; exact d1, by rw [List.range'_succ, List.flatMap_cons, ← List.append_assoc]; exact d2, e3.tr d3⟩
  intro J u hs hf
  rw [List.range_eq_range']
  exact go n 0 FU J u (by omega) (by unfold FU; omega) hs hf
theorem loop2_C {d n : Nat} {F : Nat → List Nat} {N : Nat → Nat} {body : Int32 × Int32 × Mem → Option ((Int32 × Int32 × Mem) ⊕ (Int32 × Mem))} {J0 : Mem} (hn : n < 1000)
    (hstep : ∀ c x J u, x < n → ShC J d u → FrC d J0 J → ∃ J', body (nI c, nI x, J) = some (.inl (nI (c + N x), nI (x + 1), J')) ∧ ShC J' d (u ++ F x) ∧ FrC d J J') (hend : ∀ c J, FrC d J0 J → body (nI c, nI n, J) = some (.inr (nI c, J))) :
    ∀ c J u, ShC J d u → FrC d J0 J → ∃ J', loopF body FU (nI c, nI 0, J) = some (nI (c + ((List.range n).map N).sum), J') ∧ ShC J' d (u ++ (List.range n).flatMap F) ∧ FrC d J J' := by
  have go : ∀ (r x f c : Nat) (J : Mem) (u : List Nat), x + r = n → r < f → ShC J d u → FrC d J0 J → ∃ J', loopF body f (nI c, nI x, J) = some (nI (c + ((List.range' x r).map N).sum), J') ∧ ShC J' d (u ++ (List.range' x r).flatMap F) ∧ FrC d J J' := by
    intro r
    induction r with
    | zero =>
      intro x f c J u h1 h2 hs hf
      obtain ⟨k, rfl⟩ : ∃ k, f = k + 1 := ⟨f - 1, by omega⟩
      have : x = n := by omega
      subst this
      exact ⟨J, loopF_r (hend c J hf), by simpa using hs, FrC.rf⟩
    | succ r ih =>
      intro x f c J u h1 h2 hs hf
      obtain ⟨k, rfl⟩ : ∃ k, f = k + 1 := ⟨f - 1, by omega⟩
      obtain ⟨J', e1, e2, e3⟩ := hstep c x J u (by omega) hs hf
      obtain ⟨J2, d1, d2, d3⟩ := ih (x + 1) k (c + N x) J' (u ++ F x) (by omega) (by omega) e2 (hf.tr e3)
      exact ⟨J2, by rw [loopF_l e1, List.range'_succ, List.map_cons, List.sum_cons, ← Nat.add_assoc]; exact d1, by rw [List.range'_succ, List.flatMap_cons, ← List.append_assoc]; exact d2, e3.tr d3⟩
  intro c J u hs hf
  rw [List.range_eq_range']
  exact go n 0 FU c J u (by omega) (by unfold FU; omega) hs hf
def rel (q : Nat) : List Nat := if q = 43 ∨ q = 39 ∨ q = 63 then [63, q] else [q]
def sL (I : Mem) (m s e : Nat) : Nat := if e < (I (m + 8 + 3 * s) 4).toNatClampNeg then (I (m + 10 + 3 * s) e).toNatClampNeg else 0
def sQ (I : Mem) (m s e x : Nat) : Nat := (I (m + 9 + 3 * s) (8 * e + x)).toNatClampNeg
def cont (I : Mem) (m s e : Nat) : List Nat := (List.range (sL I m s e)).flatMap (fun x => rel (sQ I m s e x))
def rF (I : Mem) (r : Nat) : Nat := (I (42 + 2 * r) 3).toNatClampNeg
def rE (I : Mem) (r x : Nat) : Nat := (I (43 + 2 * r) x).toNatClampNeg
def trn (I : Mem) (m s r : Nat) : List Nat := [(I (42 + 2 * r) 2).toNatClampNeg] ++ ((List.range (rF I r)).flatMap (fun x => [43] ++ cont I m s (rE I r x)) ++ [39])
def rT (I : Mem) (r : Nat) : Nat := (I (42 + 2 * r) 4).toNatClampNeg
def apl (I : Mem) (m s r : Nat) : Bool := decide (I (m + 8 + 3 * s) 5 = I (42 + 2 * r) 1) && (decide (I (42 + 2 * r) 4 = -1) || (decide (0 < sL I m s (rT I r)) && decide (I (m + 9 + 3 * s) (8 * rT I r) = I (42 + 2 * r) 5)))
theorem SegP.len {I : Mem} {m s e : Nat} (h : SegP I m s) : sL I m s e ≤ 8 := by
  obtain ⟨h1, h2, h3, h4, c, h5, h6, h7, h8⟩ := h
  unfold sL
  rw [h6, nI_clamp (by omega)]
  split
  · next he =>
    obtain ⟨l, a1, a2, a3, a4⟩ := h8 e he
    rw [a2, nI_clamp (by omega)]
    exact a1
  · omega
theorem SegP.let_ {I : Mem} {m s e x : Nat} (h : SegP I m s) (hx : x < sL I m s e) : 32 ≤ sQ I m s e x ∧ sQ I m s e x ≤ 126 ∧ I (m + 9 + 3 * s) (8 * e + x) = nI (sQ I m s e x) ∧ I (m + 9 + 3 * s) (8 * e + x) = nI (sQ I m s e x) := by
  obtain ⟨h1, h2, h3, h4, c, h5, h6, h7, h8⟩ := h
  unfold sL at hx
  rw [h6, nI_clamp (by omega)] at hx
  by_cases he : e < c
  · rw [if_pos he] at hx
    obtain ⟨l, a1, a2, a3, a4⟩ := h8 e he
    rw [a2, nI_clamp (by omega)] at hx
    obtain ⟨q, b1, b2, b3, b4⟩ := a4 x hx
    unfold sQ
    rw [b3, nI_clamp (by omega)]
    exact ⟨b1, b2, rfl, rfl⟩
  · rw [if_neg he] at hx
    omega
theorem SegP.cnt {I J : Mem} {m s e : Nat} (h : SegP I m s) (he : e < 5) (hJ : ∀ a b, m + 8 + 3 * s ≤ a → a ≤ m + 10 + 3 * s → J a b = I a b) : m_X9_countIn (m + 8 + 3 * s) (nI e) J = some (nI (sL I m s e)) := by
  obtain ⟨h1, h2, h3, h4, c, h5, h6, h7, h8⟩ := h
  unfold sL
  rw [h6, nI_clamp (by omega)]
  by_cases hc : e < c
  · obtain ⟨l, a1, a2, a3, a4⟩ := h8 e hc
    rw [if_pos hc, a2, nI_clamp (by omega)]
    refine countIn_ok h5 hc (by rw [hJ _ _ (by omega) (by omega)]; exact h6) ?_
    rw [hJ _ _ (by omega) (by omega), show m + 8 + 3 * s + 2 = m + 10 + 3 * s by omega]
    exact a2
  · rw [if_neg hc]
    have z0 : ¬ nI e < 0 := nI_pos (by omega)
    have z1 : nI c ≤ nI e := nI_le (by omega) (by omega)
    simp [m_X9_countIn, z0, hJ (m + 8 + 3 * s) 4 (by omega) (by omega), h6, z1]
    rfl
theorem SegP.ltr {I J : Mem} {m s e x : Nat} (h : SegP I m s) (he : e < 5) (hx : x < sL I m s e) (hJ : ∀ a b, m + 8 + 3 * s ≤ a → a ≤ m + 10 + 3 * s → J a b = I a b) : m_X9_letterIn (m + 8 + 3 * s) (nI e) (nI x) J = some (nI (sQ I m s e x)) := by
  have hq := h.let_ hx
  obtain ⟨h1, h2, h3, h4, c, h5, h6, h7, h8⟩ := h
  unfold sL at hx
  rw [h6, nI_clamp (by omega)] at hx
  by_cases hc : e < c
  · rw [if_pos hc] at hx
    obtain ⟨l, a1, a2, a3, a4⟩ := h8 e hc
    rw [a2, nI_clamp (by omega)] at hx
    refine letterIn_ok (c := c) (l := l) h5 hc (by rw [hJ _ _ (by omega) (by omega)]; exact h6) ?_ a1 hx ?_ (by omega)
    · rw [hJ _ _ (by omega) (by omega), show m + 8 + 3 * s + 2 = m + 10 + 3 * s by omega]
      exact a2
    · rw [hJ _ _ (by omega) (by omega), show m + 8 + 3 * s + 1 = m + 9 + 3 * s by omega]
      exact hq.2.2.1
  · rw [if_neg hc] at hx
    omega
theorem rel_len (q : Nat) : (rel q).length ≤ 2 := by unfold rel; split <;> simp
theorem flat_len {n c : Nat} {F : Nat → List Nat} (h : ∀ x, x < n → (F x).length ≤ c) : ((List.range n).flatMap F).length ≤ n * c := by
  induction n with
  | zero => simp
  | succ n ih =>
    rw [List.range_succ, List.flatMap_append, List.length_append, Nat.add_mul, Nat.one_mul, List.flatMap_cons, List.flatMap_nil, List.append_nil]
    have := ih (fun x hx => h x (by omega))
    have := h n (by omega)
    omega
theorem RulP.fc {I : Mem} {r : Nat} (h : RulP I r) : rF I r ≤ 5 ∧ I (42 + 2 * r) 3 = nI (rF I r) ∧ I (42 + 2 * r) 3 = nI (rF I r) ∧ ∀ x, x < rF I r → rE I r x < 5 ∧ I (43 + 2 * r) x = nI (rE I r x) ∧ I (43 + 2 * r) x = nI (rE I r x) := by
  obtain ⟨h1, h2, h3, ⟨f, h4, h5, h6, h7⟩, h8⟩ := h
  have e : rF I r = f := by unfold rF; rw [h5, nI_clamp (by omega)]
  rw [e]
  refine ⟨h4, h5, h6, fun x hx => ?_⟩
  obtain ⟨q, a1, a2, a3⟩ := h7 x hx
  have e2 : rE I r x = q := by unfold rE; rw [a2, nI_clamp (by omega)]
  rw [e2]
  exact ⟨a1, a2, a3⟩
theorem released_C {J : Mem} {d q : Nat} {u : List Nat} (h : ShC J d u) (hq : q < 65536) : AppC d J (m_X10_putReleased d (nI q) J) u (rel q) := by
  have eq : ∀ k, k < 65536 → (nI q = nI k ↔ q = k) := fun k hk => nI_eq (by omega) (by omega)
  have c1 : (nI q = 43) ↔ q = 43 := eq 43 (by omega)
  have c2 : (nI q = 39) ↔ q = 39 := eq 39 (by omega)
  have c3 : (nI q = 63) ↔ q = 63 := eq 63 (by omega)
  unfold rel m_X10_putReleased
  simp only [c1, c2, c3]
  have two : AppC d J (m_X10_putReleased_j18 d (nI q) J) u [63, q] := by
    unfold m_X10_putReleased_j18 m_X10_putReleased_j24
    refine AppC.bind (L1 := [63]) (L2 := [q]) (put_C (c := 63) h (by omega)) fun J' hs _ => ?_
    have := AppC.bind (g := fun I2 => some I2) (L2 := []) (put_C (c := q) hs hq) (fun J2 h2 _ => AppC.nil h2)
    exact this
  have one : AppC d J (m_X10_putReleased_j24 d (nI q) J) u [q] := by
    unfold m_X10_putReleased_j24
    have := AppC.bind (g := fun I2 => some I2) (L2 := []) (put_C (c := q) h hq) (fun J2 h2 _ => AppC.nil h2)
    exact this
  by_cases z1 : q = 43
  · simpa [z1] using (by rw [z1] at two; exact two : AppC d J (m_X10_putReleased_j18 d (nI 43) J) u [63, 43])
  by_cases z2 : q = 39
  · simpa [z2] using (by rw [z2] at two; exact two : AppC d J (m_X10_putReleased_j18 d (nI 39) J) u [63, 39])
  by_cases z3 : q = 63
  · simpa [z3] using (by rw [z3] at two; exact two : AppC d J (m_X10_putReleased_j18 d (nI 63) J) u [63, 63])
  · simpa [z1, z2, z3] using one
