def fwd (T : Nat → Nat → Nat) (g : Nat → Nat) (n f : Nat) (st : Nat → Prop) : Nat → Nat → Prop
  | 0, _ => False
  | d + 1, p => (∃ s t, p = s + t ∧ max (T 1 (f + d)) 1 ≤ t ∧ t ≤ T 2 (f + d) ∧ ((allo T d f = true ∧ st s) ∨ fwd T g n f st d s) ∧ ∀ y, y < t → mk T g n (f + d) (s + y)) ∨ (T 1 (f + d) = 0 ∧ fwd T g n f st d p)
def pas (T : Nat → Nat → Nat) (g : Nat → Nat) (n e : Nat) (st : Nat → Prop) : Nat → Nat → Prop
  | 0, p => st p
  | q + 1, p => fwd T g n (T 4 e) (pas T g n e st q) (T 5 e - T 4 e) p
def bh (T : Nat → Nat → Nat) (g : Nat → Nat) (n : Nat) : Nat → Nat → Prop
  | 0, p => p = 0
  | e + 1, p => ∃ q, T 6 e ≤ q ∧ q ≤ T 7 e ∧ pas T g n e (bh T g n e) q p
def Wst (T : Nat → Nat → Nat) (g : Nat → Nat) (n e q i s : Nat) : Prop := (allo T (i - T 4 e) (T 4 e) = true ∧ pas T g n e (bh T g n e) q s) ∨ fwd T g n (T 4 e) (pas T g n e (bh T g n e) q) (i - T 4 e) s
def RC (T : Nat → Nat → Nat) (g : Nat → Nat) (n e q i many p : Nat) : Prop := ∃ s, p = s + many ∧ 1 ≤ many ∧ many ≤ T 2 i ∧ Wst T g n e q i s ∧ ∀ y, y < many → mk T g n i (s + y)
theorem allo_j {T : Nat → Nat → Nat} {d j : Nat} : allo T (d + 1) j = true ↔ T 1 j = 0 ∧ allo T d (j + 1) = true := by simp [allo]
theorem allo_e {T : Nat → Nat → Nat} : ∀ d j, allo T (d + 1) j = true ↔ allo T d j = true ∧ T 1 (j + d) = 0 := by
  intro d
  induction d with
  | zero => intro j; simp [allo]
  | succ d ih =>
    intro j
    rw [allo_j, ih (j + 1), allo_j, show j + 1 + d = j + (d + 1) by omega]
    exact and_assoc.symm
def rcd (T : Nat → Nat → Nat) (g : Nat → Nat) (n ne p : Nat) : Prop := ∃ e q i many, e < ne ∧ q < T 7 e ∧ T 4 e ≤ i ∧ i < T 5 e ∧ RC T g n e q i many p
