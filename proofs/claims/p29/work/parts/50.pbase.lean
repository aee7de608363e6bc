theorem ms_app {I : Mem} {k j : Nat} {v : Int32} {a b : Nat} : ms I k j v a b = if a = k ∧ b = j then v else I a b := rfl
theorem ms_s {I : Mem} {k j : Nat} {v : Int32} {a b : Nat} (h1 : a = k) (h2 : b = j) : ms I k j v a b = v := by rw [ms_app, if_pos ⟨h1, h2⟩]
theorem ms_o {I : Mem} {k j : Nat} {v : Int32} {a b : Nat} (h : ¬ (a = k ∧ b = j)) : ms I k j v a b = I a b := by rw [ms_app, if_neg h]
theorem inb_n {k n : Nat} (h : k < n) (hn : n < 2 ^ 31) : inb (nI k) n = true := by
  have h1 : ¬ nI k < 0 := nI_pos (by omega)
  simp [inb, h1, nI_clamp (show k < 2 ^ 31 by omega), h]
theorem gd_t {R : Type} {e : Option R} : gd true e = e := rfl
def bz (b : Bool) : Int32 := if b then 1 else 0
theorem bz_t : bz true = 1 := rfl
theorem bz_f : bz false = 0 := rfl
theorem okc_n' {n : Nat} (h : n < 65536) : okc (nI n) = true := by
  have h1 : (0 : Int32) ≤ nI n := nI_pos' (by omega)
  have h2 : nI n ≤ 65535 := nI_le (b := 65535) (by omega) (by omega)
  simp [okc, h1, h2]
theorem loop_run {α β : Type} {body : α → Option (α ⊕ β)} {Inv : Nat → α → Prop} {Post : β → Prop}
    (hb : ∀ n a, Inv n a → (∃ b, body a = some (.inr b) ∧ Post b) ∨ ∃ a' n', n' < n ∧ body a = some (.inl a') ∧ Inv n' a') : ∀ (f n : Nat) (a : α), n < f → Inv n a → ∃ b, loopF body f a = some b ∧ Post b
  | 0, _, _, h, _ => absurd h (Nat.not_lt_zero _)
  | f + 1, n, a, h, hi => by
    rcases hb n a hi with ⟨b, h1, h2⟩ | ⟨a', n', h1, h2, h3⟩
    · exact ⟨b, by simp only [loopF, h1], h2⟩
    · obtain ⟨b, h4, h5⟩ := loop_run hb f n' a' (by omega) h3
      exact ⟨b, by simp only [loopF, h2]; exact h4, h5⟩
def DSch (a b : Nat) : Prop := (a = 1 ∧ 4 ≤ b ∧ b ≤ 6) ∨ (6 ≤ a ∧ a ≤ 26) ∨ (a = 196 ∧ (b = 4 ∨ b = 10 ∨ b = 11)) ∨ (197 ≤ a ∧ a ≤ 205)
def SchC (I : Mem) (T : Nat → Nat → Nat) (ni ne : Nat) (op : Bool) : Prop :=
  I 1 4 = nI ni ∧ I 1 5 = nI ne ∧ I 1 6 = bz op ∧ (∀ i, i < ni → I (6 + i) 0 = nI (T 0 i) ∧ I (6 + i) 1 = nI (T 1 i) ∧ I (6 + i) 2 = nI (T 2 i)) ∧
  ∀ e, e < ne → I (16 + e) 0 = nI (T 3 e) ∧ I (16 + e) 1 = nI (T 4 e) ∧ I (16 + e) 2 = nI (T 5 e) ∧ I (16 + e) 3 = nI (T 6 e) ∧ I (16 + e) 4 = nI (T 7 e)
def SchF (T : Nat → Nat → Nat) (ni ne : Nat) (op : Bool) : Prop :=
  ni ≤ 10 ∧ ne ≤ 11 ∧ (∀ i, i < ni → 65 ≤ T 0 i ∧ T 0 i ≤ 90 ∧ T 1 i ≤ 9 ∧ 1 ≤ T 2 i ∧ T 2 i ≤ 9 ∧ T 1 i ≤ T 2 i) ∧
  (∀ e, e < ne → T 3 e ≤ 1 ∧ T 4 e ≤ T 5 e ∧ T 5 e ≤ ni ∧ e ≤ T 4 e ∧ T 6 e ≤ 9 ∧ 1 ≤ T 7 e ∧ T 7 e ≤ 9 ∧ T 6 e ≤ T 7 e ∧ (T 3 e = 0 → T 5 e = T 4 e + 1 ∧ T 6 e = min (T 1 (T 4 e)) 1 ∧ T 7 e = 1) ∧ (e + 1 < ne → T 4 (e + 1) = T 5 e) ∧ (op = false ∨ e + 1 < ne → T 4 e < T 5 e)) ∧
  (0 < ne → T 4 0 = 0 ∧ T 5 (ne - 1) = ni) ∧ (ne = 0 → ni = 0 ∧ op = false) ∧ (op = true → T 3 (ne - 1) = 1)
theorem SchC.congr {I I' : Mem} {T : Nat → Nat → Nat} {ni ne : Nat} {op : Bool} (h : SchC I T ni ne op) (hn : ni ≤ 10) (he : ne ≤ 11) (hc : ∀ a b, DSch a b → I' a b = I a b) : SchC I' T ni ne op := by
  obtain ⟨h1, h2, h3, h4, h5⟩ := h
  unfold DSch at hc
  refine ⟨?_, ?_, ?_, fun i hi => ?_, fun e h9 => ?_⟩
  · rw [hc _ _ (by omega), h1]
  · rw [hc _ _ (by omega), h2]
  · rw [hc _ _ (by omega), h3]
  · obtain ⟨a1, a2, a3⟩ := h4 i hi
    exact ⟨by rw [hc _ _ (by omega), a1], by rw [hc _ _ (by omega), a2], by rw [hc _ _ (by omega), a3]⟩
  · obtain ⟨a1, a2, a3, a4, a5⟩ := h5 e h9
    exact ⟨by rw [hc _ _ (by omega), a1], by rw [hc _ _ (by omega), a2], by rw [hc _ _ (by omega), a3], by rw [hc _ _ (by omega), a4], by rw [hc _ _ (by omega), a5]⟩
def DNon (a b : Nat) : Prop := (a = 64 ∨ a = 129) ∧ 2 ≤ b ∧ b ≤ 4
def Non (I : Mem) : Prop := ∀ a, (a = 64 ∨ a = 129) → I a 2 = 0 ∧ I a 3 = 32 ∧ I a 4 = 0
theorem Non.congr {I I' : Mem} (h : Non I) (hc : ∀ a b, DNon a b → I' a b = I a b) : Non I' := by
  intro a ha
  obtain ⟨h1, h2, h3⟩ := h a ha
  unfold DNon at hc
  exact ⟨by rw [hc _ _ (by omega), h1], by rw [hc _ _ (by omega), h2], by rw [hc _ _ (by omega), h3]⟩
def SegP (I : Mem) (m s : Nat) : Prop :=
  I (m + 8 + 3 * s) 3 = I (m + 8 + 3 * s) 3 ∧ okc (I (m + 8 + 3 * s) 3) = true ∧ I (m + 8 + 3 * s) 5 = I (m + 8 + 3 * s) 5 ∧ I (m + 8 + 3 * s) 6 = I (m + 8 + 3 * s) 6 ∧
  ∃ c, c ≤ 5 ∧ I (m + 8 + 3 * s) 4 = nI c ∧ I (m + 8 + 3 * s) 4 = nI c ∧ ∀ e, e < c → ∃ l, l ≤ 8 ∧ I (m + 10 + 3 * s) e = nI l ∧ I (m + 10 + 3 * s) e = nI l ∧
    ∀ x, x < l → ∃ q, 32 ≤ q ∧ q ≤ 126 ∧ I (m + 9 + 3 * s) (8 * e + x) = nI q ∧ I (m + 9 + 3 * s) (8 * e + x) = nI q
def BodP (I : Mem) (m nb : Nat) : Prop := nb ≤ 18 ∧ I m 2 = nI (nb + 2) ∧ I m 2 = nI (nb + 2) ∧ ∀ s, s < nb → SegP I m s
def RulP (I : Mem) (r : Nat) : Prop :=
  I (42 + 2 * r) 1 = I (42 + 2 * r) 1 ∧ I (42 + 2 * r) 2 = I (42 + 2 * r) 2 ∧ (∃ q, 65 ≤ q ∧ q ≤ 90 ∧ I (42 + 2 * r) 2 = nI q) ∧ (∃ f, f ≤ 5 ∧ I (42 + 2 * r) 3 = nI f ∧ I (42 + 2 * r) 3 = nI f ∧ ∀ x, x < f → ∃ q, q < 5 ∧ I (43 + 2 * r) x = nI q ∧ I (43 + 2 * r) x = nI q) ∧
  ((I (42 + 2 * r) 4 = -1 ∧ I (42 + 2 * r) 4 = -1) ∨ ∃ q, q < 5 ∧ I (42 + 2 * r) 4 = nI q ∧ I (42 + 2 * r) 4 = nI q ∧ I (42 + 2 * r) 5 = I (42 + 2 * r) 5)
def RulsP (I : Mem) (nr : Nat) : Prop := nr ≤ 10 ∧ I 38 2 = nI nr ∧ I 38 2 = nI nr ∧ ∀ r, r < nr → RulP I r
