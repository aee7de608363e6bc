/-! matching: which places can be come to -/
def fwd (T : Nat → Nat → Nat) (g : Nat → Nat) (n f : Nat) (st : Nat → Prop) : Nat → Nat → Prop
  | 0, _ => False
  | d + 1, p => (∃ s t, p = s + t ∧ max (T 1 (f + d)) 1 ≤ t ∧ t ≤ T 2 (f + d) ∧ ((allo T d f = true ∧ st s) ∨ fwd T g n f st d s) ∧ ∀ y, y < t → mk T g n (f + d) (s + y)) ∨ (T 1 (f + d) = 0 ∧ fwd T g n f st d p)
def pas (T : Nat → Nat → Nat) (g : Nat → Nat) (n e : Nat) (st : Nat → Prop) : Nat → Nat → Prop
  | 0, p => st p
  | q + 1, p => fwd T g n (T 4 e) (pas T g n e st q) (T 5 e - T 4 e) p
def bh (T : Nat → Nat → Nat) (g : Nat → Nat) (n : Nat) : Nat → Nat → Prop
  | 0, p => p = 0
  | e + 1, p => ∃ q, T 6 e ≤ q ∧ q ≤ T 7 e ∧ pas T g n e (bh T g n e) q p
/-- from where the item i of the pass q + 1 of the entry e can begin -/
def Wst (T : Nat → Nat → Nat) (g : Nat → Nat) (n e q i s : Nat) : Prop := (allo T (i - T 4 e) (T 4 e) = true ∧ pas T g n e (bh T g n e) q s) ∨ fwd T g n (T 4 e) (pas T g n e (bh T g n e) q) (i - T 4 e) s
def RC (T : Nat → Nat → Nat) (g : Nat → Nat) (n e q i many p : Nat) : Prop := ∃ s, p = s + many ∧ 1 ≤ many ∧ many ≤ T 2 i ∧ Wst T g n e q i s ∧ ∀ y, y < many → mk T g n i (s + y)
def rch (T : Nat → Nat → Nat) (g : Nat → Nat) (ne : Nat) (eo : Nat → Nat) : Nat → Nat → Prop
  | 0, c => c = 1000
  | k + 1, c => ∃ pl, rch T g ne eo k pl ∧ c ∈ ldc T ne eo pl (g k)
theorem allo_j {T : Nat → Nat → Nat} {d j : Nat} : allo T (d + 1) j = true ↔ T 1 j = 0 ∧ allo T d (j + 1) = true := by simp [allo]
theorem allo_e {T : Nat → Nat → Nat} : ∀ d j, allo T (d + 1) j = true ↔ allo T d j = true ∧ T 1 (j + d) = 0 := by
  intro d
  induction d with
  | zero => intro j; simp [allo]
  | succ d ih =>
    intro j
    rw [allo_j, ih (j + 1), allo_j, show j + 1 + d = j + (d + 1) by omega]
    exact and_assoc.symm
theorem allo_s {T : Nat → Nat → Nat} : ∀ a b j, allo T (a + b) j = true ↔ allo T a j = true ∧ allo T b (j + a) = true := by
  intro a b
  induction b with
  | zero => intro j; simp [allo]
  | succ b ih =>
    intro j
    rw [show a + (b + 1) = (a + b) + 1 by omega, allo_e, ih, allo_e, show j + a + b = j + (a + b) by omega]
    exact and_assoc
theorem mem_ent {T : Nat → Nat → Nat} {c q x : Nat} : ∀ d j, x ∈ ent T c q d j ↔ ∃ i, j ≤ i ∧ i < j + d ∧ allo T (i - j) j = true ∧ T 0 i = c ∧ x = 100 * i + 10 * q + 1 := by
  intro d
  induction d with
  | zero => intro j; simp only [ent, List.not_mem_nil, false_iff]; rintro ⟨i, h1, h2, _⟩; omega
  | succ d ih =>
    intro j
    simp only [ent, List.mem_append]
    constructor
    · rintro (h | h)
      · by_cases z : T 0 j = c
        · rw [if_pos z, List.mem_singleton] at h
          exact ⟨j, by omega, by omega, by rw [Nat.sub_self]; rfl, z, h⟩
        · rw [if_neg z] at h; simp at h
      · by_cases z : T 1 j = 0
        · rw [if_pos z, ih] at h
          obtain ⟨i, h1, h2, h3, h4, h5⟩ := h
          refine ⟨i, by omega, by omega, ?_, h4, h5⟩
          rw [show i - j = (i - (j + 1)) + 1 by omega, allo_j]
          exact ⟨z, h3⟩
        · rw [if_neg z] at h; simp at h
    · rintro ⟨i, h1, h2, h3, h4, h5⟩
      by_cases z : i = j
      · subst z
        left
        rw [if_pos h4]
        simp [h5]
      · right
        rw [show i - j = (i - (j + 1)) + 1 by omega, allo_j] at h3
        rw [if_pos h3.1, ih]
        exact ⟨i, by omega, by omega, h3.2, h4, h5⟩
/-- passing over items that may be left out -/
theorem fwd_skip {T : Nat → Nat → Nat} {g : Nat → Nat} {n f s : Nat} {st : Nat → Prop} : ∀ m d, fwd T g n f st d s → allo T m (f + d) = true → fwd T g n f st (d + m) s := by
  intro m
  induction m with
  | zero => intro d h _; exact h
  | succ m ih =>
    intro d h ha
    rw [allo_e] at ha
    have h2 := ha.2
    rw [show f + d + m = f + (d + m) by omega] at h2
    exact Or.inr ⟨h2, ih d h ha.1⟩
theorem Wst.skip {T : Nat → Nat → Nat} {g : Nat → Nat} {n e q i j s : Nat} (hi : T 4 e ≤ i ∧ i ≤ j) (h : fwd T g n (T 4 e) (pas T g n e (bh T g n e) q) (i - T 4 e) s) (ha : allo T (j - i) i = true) : Wst T g n e q j s := by
  right
  rw [show j - T 4 e = (i - T 4 e) + (j - i) by omega]
  exact fwd_skip _ _ h (by rwa [show T 4 e + (i - T 4 e) = i by omega])
theorem RC.fwd {T : Nat → Nat → Nat} {g : Nat → Nat} {n e q i many p : Nat} (hi : T 4 e ≤ i) (h : RC T g n e q i many p) (hm : T 1 i ≤ many) : fwd T g n (T 4 e) (pas T g n e (bh T g n e) q) (i + 1 - T 4 e) p := by
  obtain ⟨s, h1, h2, h3, h4, h5⟩ := h
  rw [show i + 1 - T 4 e = (i - T 4 e) + 1 by omega]
  left
  rw [show T 4 e + (i - T 4 e) = i by omega]
  exact ⟨s, many, h1, by omega, h3, h4, h5⟩
/-- the places of the next entries -/
theorem bh_rst {T : Nat → Nat → Nat} {g : Nat → Nat} {n ni ne p x : Nat} (hS : SF T ni ne) (hp : p < n) : ∀ d e, e + d = ne → bh T g n e p → x ∈ rst T ne (g p) (ne - e) → ∃ e' i, e' < ne ∧ T 4 e' ≤ i ∧ i < T 5 e' ∧ x = 100 * i + 10 * qq T e' 1 + 1 ∧ RC T g n e' 0 i 1 (p + 1) := by
  intro d
  induction d with
  | zero => intro e h _ hx; rw [show ne - e = 0 by omega] at hx; simp [rst] at hx
  | succ d ih =>
    intro e h hb hx
    have k := hS.2.2.2.1 e (by omega)
    rw [rst_e (by omega), List.mem_append] at hx
    rcases hx with hx | hx
    · rw [mem_ent] at hx
      obtain ⟨i, h1, h2, h3, h4, h5⟩ := hx
      refine ⟨e, i, by omega, h1, by omega, h5, p, rfl, by omega, (hS.2.2.1 i (by omega)).1, Or.inl ⟨h3, hb⟩, fun y hy => ?_⟩
      rw [show y = 0 by omega]
      exact ⟨hp, h4.symm⟩
    · by_cases z : T 6 e = 0
      · rw [if_pos z] at hx
        exact ih (e + 1) (by omega) ⟨0, by omega, by omega, hb⟩ hx
      · rw [if_neg z] at hx; simp at hx
/-- every place that is come to is one of the tables -/
def VC (T : Nat → Nat → Nat) (g : Nat → Nat) (n ne c p : Nat) : Prop := ∃ e i q many, e < ne ∧ T 4 e ≤ i ∧ i < T 5 e ∧ q < T 7 e ∧ c = 100 * i + 10 * qq T e (q + 1) + many ∧ RC T g n e q i many p
theorem VC.step {T : Nat → Nat → Nat} {g : Nat → Nat} {n ni ne c p x : Nat} {eo : Nat → Nat} (hS : SF T ni ne) (hE : EO T ne eo) (hp : p < n) (h : VC T g n ne c p) (hx : x ∈ ldc T ne eo c (g p)) : VC T g n ne x (p + 1) := by
  obtain ⟨e, i, q, many, he, a, b, hq, rfl, hR⟩ := h
  have k := hS.2.2.2.1 e he
  have k0 := hS.1
  have k2 := hS.2.2.1 i (by omega)
  have hm : 1 ≤ many ∧ many ≤ T 2 i := by obtain ⟨s, _, h1, h2, _⟩ := hR; exact ⟨h1, h2⟩
  obtain ⟨c1, c2, c3, c4⟩ := code_d (i := i) (q := qq T e (q + 1)) (many := many) (by omega) (qq_le hS he (by omega)) (by omega)
  rw [ldc, if_neg c1, c2, c3, c4, hE e i he a b, ldp_cnd hS he ⟨a, b⟩ ⟨by omega, by omega⟩, List.mem_append] at hx
  have fresh : ∀ e' i' q', e' < ne → T 4 e' ≤ i' → i' < T 5 e' → q' < T 7 e' → T 0 i' = g p → Wst T g n e' q' i' p → VC T g n ne (100 * i' + 10 * qq T e' (q' + 1) + 1) (p + 1) := fun e' i' q' h1 h2 h3 h4 h5 h6 =>
    have k' := hS.2.2.2.1 e' h1
    ⟨e', i', q', 1, h1, h2, h3, h4, rfl, p, rfl, by omega, (hS.2.2.1 i' (by omega)).1, h6, fun y hy => by rw [show y = 0 by omega]; exact ⟨hp, h5.symm⟩⟩
  rcases hx with hx | hx
  · by_cases z : T 0 i = g p ∧ many < T 2 i
    · rw [if_pos z, List.mem_singleton] at hx
      obtain ⟨s, h1, h2, h3, h4, h5⟩ := hR
      refine ⟨e, i, q, many + 1, he, a, b, hq, hx, s, by omega, by omega, by omega, h4, fun y hy => ?_⟩
      by_cases w : y < many
      · exact h5 y w
      · rw [show s + y = p by omega]
        exact ⟨hp, z.1.symm⟩
    · rw [if_neg z] at hx; simp at hx
  · by_cases z : T 1 i ≤ many
    · rw [if_pos z] at hx
      have hf := hR.fwd a z
      unfold cnd at hx
      rw [List.mem_append] at hx
      rcases hx with hx | hx
      · rw [mem_ent] at hx
        obtain ⟨i', h1, h2, h3, h4, rfl⟩ := hx
        exact fresh e i' q he (by omega) (by omega) hq h4 (Wst.skip ⟨by omega, h1⟩ hf h3)
      · by_cases w : allo T (T 5 e - (i + 1)) (i + 1) = true
        · rw [if_pos w, List.mem_append] at hx
          have hf2 : pas T g n e (bh T g n e) (q + 1) p := by
            have := fwd_skip _ _ hf (by rw [show T 4 e + (i + 1 - T 4 e) = i + 1 by omega]; exact w)
            rw [show i + 1 - T 4 e + (T 5 e - (i + 1)) = T 5 e - T 4 e by omega] at this
            exact this
          rcases hx with hx | hx
          · by_cases v : q + 1 < T 7 e
            · rw [if_pos v, mem_ent] at hx
              obtain ⟨i', h1, h2, h3, h4, rfl⟩ := hx
              exact fresh e i' (q + 1) he h1 (by omega) v h4 (Or.inl ⟨h3, hf2⟩)
            · rw [if_neg v] at hx; simp at hx
          · by_cases v : T 6 e ≤ q + 1
            · rw [if_pos v] at hx
              obtain ⟨e', i', h1, h2, h3, h4, h5⟩ := bh_rst hS hp (ne - (e + 1)) (e + 1) (by omega) ⟨q + 1, v, by omega, hf2⟩ hx
              have k' := hS.2.2.2.1 e' h1
              exact ⟨e', i', 0, 1, h1, h2, h3, by omega, h4, h5⟩
            · rw [if_neg v] at hx; simp at hx
        · rw [if_neg w] at hx; simp at hx
    · rw [if_neg z] at hx; simp at hx
theorem rch_VC {T : Nat → Nat → Nat} {g : Nat → Nat} {n ni ne : Nat} {eo : Nat → Nat} (hS : SF T ni ne) (hE : EO T ne eo) : ∀ k c, k < n → rch T g ne eo (k + 1) c → VC T g n ne c (k + 1) := by
  intro k
  induction k with
  | zero =>
    rintro c hk ⟨pl, h1, h2⟩
    have h1 : pl = 1000 := h1
    subst h1
    rw [ldc, if_pos rfl] at h2
    obtain ⟨e', i', h1, h2, h3, h4, h5⟩ := bh_rst hS hk ne 0 (by omega) rfl h2
    have k' := hS.2.2.2.1 e' h1
    exact ⟨e', i', 0, 1, h1, h2, h3, by omega, h4, h5⟩
  | succ k ih =>
    rintro c hk ⟨pl, h1, h2⟩
    exact (ih pl (by omega) h1).step hS hE hk h2
/-- a place that leads on as the entries from e on, or as the rest of a pass, do -/
def YZ (T : Nat → Nat → Nat) (g : Nat → Nat) (ne : Nat) (eo : Nat → Nat) (p : Nat) (L : Nat → List Nat) : Prop := ∃ pl, rch T g ne eo p pl ∧ ∀ c x, x ∈ L c → x ∈ ldc T ne eo pl c
theorem YZ.sub {T : Nat → Nat → Nat} {g : Nat → Nat} {ne p : Nat} {eo : Nat → Nat} {L L' : Nat → List Nat} (h : YZ T g ne eo p L) (hs : ∀ c x, x ∈ L' c → x ∈ L c) : YZ T g ne eo p L' := by
  obtain ⟨pl, h1, h2⟩ := h
  exact ⟨pl, h1, fun c x hx => h2 c x (hs c x hx)⟩
theorem ent_sub {T : Nat → Nat → Nat} {c q x f i d : Nat} (hi : f ≤ i ∧ i ≤ f + d) (ha : allo T (i - f) f = true) (h : x ∈ ent T c q (f + d - i) i) : x ∈ ent T c q d f := by
  rw [mem_ent] at h ⊢
  obtain ⟨j, h1, h2, h3, h4, h5⟩ := h
  refine ⟨j, by omega, by omega, ?_, h4, h5⟩
  rw [show j - f = (i - f) + (j - i) by omega, allo_s, show f + (i - f) = i by omega]
  exact ⟨ha, h3⟩
theorem run_rch {T : Nat → Nat → Nat} {g : Nat → Nat} {n ni ne e i q s : Nat} {eo : Nat → Nat} (hS : SF T ni ne) (hE : EO T ne eo) (he : e < ne) (hi : T 4 e ≤ i ∧ i < T 5 e) (hq : q < T 7 e) (h : YZ T g ne eo s (fun c => ent T c (qq T e (q + 1)) (T 5 e - i) i)) : ∀ t, 1 ≤ t → t ≤ T 2 i → (∀ y, y < t → mk T g n i (s + y)) → rch T g ne eo (s + t) (100 * i + 10 * qq T e (q + 1) + t) := by
  have k := hS.2.2.2.1 e he
  have k0 := hS.1
  have k2 := hS.2.2.1 i (by omega)
  intro t
  induction t with
  | zero => intro h; omega
  | succ t ih =>
    intro h1 h2 h3
    by_cases z : t = 0
    · subst z
      obtain ⟨pl, a, b⟩ := h
      refine ⟨pl, a, b _ _ ?_⟩
      rw [mem_ent]
      exact ⟨i, by omega, by omega, by rw [Nat.sub_self]; rfl, (h3 0 (by omega)).2.symm, rfl⟩
    · refine ⟨100 * i + 10 * qq T e (q + 1) + t, ih (by omega) (by omega) (fun y hy => h3 y (by omega)), ?_⟩
      obtain ⟨c1, c2, c3, c4⟩ := code_d (i := i) (q := qq T e (q + 1)) (many := t) (by omega) (qq_le hS he (by omega)) (by omega)
      rw [ldc, if_neg c1, c2, c3, c4, hE e i he hi.1 hi.2, ldp_cnd hS he hi ⟨by omega, by omega⟩, List.mem_append]
      left
      rw [if_pos ⟨(h3 t (by omega)).2.symm, by omega⟩]
      simp
theorem fwd_Y {T : Nat → Nat → Nat} {g : Nat → Nat} {n ni ne e q : Nat} {eo : Nat → Nat} {st : Nat → Prop} (hS : SF T ni ne) (hE : EO T ne eo) (he : e < ne) (hq : q < T 7 e)
    (hst : ∀ p, st p → YZ T g ne eo p (fun c => ent T c (qq T e (q + 1)) (T 5 e - T 4 e) (T 4 e))) : ∀ d p, d ≤ T 5 e - T 4 e → fwd T g n (T 4 e) st d p → YZ T g ne eo p (fun c => cnd T ne e (q + 1) (T 4 e + d) c) := by
  have k := hS.2.2.2.1 e he
  have k0 := hS.1
  intro d
  induction d with
  | zero => intro p _ h; exact h.elim
  | succ d ih =>
    intro p hd h
    rcases h with ⟨s, t, h1, h2, h3, h4, h5⟩ | ⟨h1, h2⟩
    · have hy : YZ T g ne eo s (fun c => ent T c (qq T e (q + 1)) (T 5 e - (T 4 e + d)) (T 4 e + d)) := by
        rcases h4 with ⟨a, b⟩ | a
        · refine (hst s b).sub fun c x hx => ?_
          refine ent_sub (i := T 4 e + d) ⟨by omega, by omega⟩ (by rwa [show T 4 e + d - T 4 e = d by omega]) ?_
          rwa [show T 4 e + (T 5 e - T 4 e) - (T 4 e + d) = T 5 e - (T 4 e + d) by omega]
        · exact (ih s (by omega) a).sub fun c x hx => by unfold cnd; exact List.mem_append.mpr (Or.inl hx)
      have hr := run_rch (n := n) hS hE he ⟨by omega, by omega⟩ hq hy t (by omega) h3 h5
      rw [h1]
      refine ⟨_, hr, fun c x hx => ?_⟩
      have k2 := hS.2.2.1 (T 4 e + d) (by omega)
      obtain ⟨c1, c2, c3, c4⟩ := code_d (i := T 4 e + d) (q := qq T e (q + 1)) (many := t) (by omega) (qq_le hS he (by omega)) (by omega)
      rw [ldc, if_neg c1, c2, c3, c4, hE e (T 4 e + d) he (by omega) (by omega), ldp_cnd hS he ⟨by omega, by omega⟩ ⟨by omega, by omega⟩, List.mem_append, if_pos (show T 1 (T 4 e + d) ≤ t by omega)]
      right
      exact hx
    · refine (ih p (by omega) h2).sub fun c x hx => ?_
      show x ∈ cnd T ne e (q + 1) (T 4 e + d) c
      rw [cnd_e (by omega) h1]
      exact List.mem_append.mpr (Or.inr hx)
theorem pas_Y {T : Nat → Nat → Nat} {g : Nat → Nat} {n ni ne e : Nat} {eo : Nat → Nat} (hS : SF T ni ne) (hE : EO T ne eo) (he : e < ne) (hb : ∀ p, bh T g n e p → YZ T g ne eo p (fun c => rst T ne c (ne - e))) :
    ∀ q, q ≤ T 7 e → (∀ p, pas T g n e (bh T g n e) q p → YZ T g ne eo p (fun c => if q < T 7 e then ent T c (qq T e (q + 1)) (T 5 e - T 4 e) (T 4 e) else [])) ∧ ∀ p, pas T g n e (bh T g n e) q p → T 6 e ≤ q → YZ T g ne eo p (fun c => rst T ne c (ne - (e + 1))) := by
  have k := hS.2.2.2.1 e he
  intro q
  induction q with
  | zero =>
    intro _
    refine ⟨fun p h => (hb p h).sub fun c x hx => ?_, fun p h h6 => (hb p h).sub fun c x hx => ?_⟩
    · rw [if_pos (by omega)] at hx
      show x ∈ rst T ne c (ne - e)
      rw [rst_e he]
      exact List.mem_append.mpr (Or.inl hx)
    · show x ∈ rst T ne c (ne - e)
      rw [rst_e he, if_pos (by omega)]
      exact List.mem_append.mpr (Or.inr hx)
  | succ q ih =>
    intro hq
    have h1 := (ih (by omega)).1
    have hy : ∀ p, pas T g n e (bh T g n e) (q + 1) p → YZ T g ne eo p (fun c => cnd T ne e (q + 1) (T 5 e) c) := fun p h => by
      have := fwd_Y (n := n) hS hE he (show q < T 7 e by omega) (fun p h => (h1 p h).sub fun c x hx => by rw [if_pos (show q < T 7 e by omega)]; exact hx) (T 5 e - T 4 e) p (by omega) h
      rwa [show T 4 e + (T 5 e - T 4 e) = T 5 e by omega] at this
    refine ⟨fun p h => (hy p h).sub fun c x hx => ?_, fun p h h6 => (hy p h).sub fun c x hx => ?_⟩
    · show x ∈ cnd T ne e (q + 1) (T 5 e) c
      unfold cnd
      rw [Nat.sub_self]
      simp only [ent, allo, if_true, List.nil_append]
      exact List.mem_append.mpr (Or.inl hx)
    · show x ∈ cnd T ne e (q + 1) (T 5 e) c
      unfold cnd
      rw [Nat.sub_self, if_pos h6]
      simp only [ent, allo, if_true, List.nil_append]
      exact List.mem_append.mpr (Or.inr hx)
theorem bh_Y {T : Nat → Nat → Nat} {g : Nat → Nat} {n ni ne : Nat} {eo : Nat → Nat} (hS : SF T ni ne) (hE : EO T ne eo) : ∀ e, e ≤ ne → ∀ p, bh T g n e p → YZ T g ne eo p (fun c => rst T ne c (ne - e)) := by
  intro e
  induction e with
  | zero =>
    intro _ p h
    have h : p = 0 := h
    subst h
    exact ⟨1000, rfl, fun c x hx => by rw [ldc, if_pos rfl]; exact hx⟩
  | succ e ih =>
    rintro he p ⟨q, h1, h2, h3⟩
    exact (pas_Y hS hE (by omega) (ih (by omega)) q h2).2 p h3 h1
/-- come to by the class -/
def rcd (T : Nat → Nat → Nat) (g : Nat → Nat) (n ne p : Nat) : Prop := ∃ e q i many, e < ne ∧ q < T 7 e ∧ T 4 e ≤ i ∧ i < T 5 e ∧ RC T g n e q i many p
theorem rcd_iff {T : Nat → Nat → Nat} {g : Nat → Nat} {n ni ne k : Nat} {eo : Nat → Nat} (hS : SF T ni ne) (hE : EO T ne eo) (hk : k < n) : rcd T g n ne (k + 1) ↔ ∃ c, rch T g ne eo (k + 1) c := by
  constructor
  · rintro ⟨e, q, i, many, he, hq, a, b, s, h1, h2, h3, h4, h5⟩
    have k := hS.2.2.2.1 e he
    have hp := pas_Y (n := n) (g := g) hS hE he (bh_Y hS hE e (by omega)) q (by omega)
    have hy : YZ T g ne eo s (fun c => ent T c (qq T e (q + 1)) (T 5 e - i) i) := by
      rcases h4 with ⟨h6, h7⟩ | h6
      · refine (hp.1 s h7).sub fun c x hx => ?_
        rw [if_pos hq]
        refine ent_sub (i := i) ⟨a, by omega⟩ h6 ?_
        rwa [show T 4 e + (T 5 e - T 4 e) - i = T 5 e - i by omega]
      · have := fwd_Y (n := n) hS hE he hq (fun p h => (hp.1 p h).sub fun c x hx => by rw [if_pos hq]; exact hx) (i - T 4 e) s (by omega) h6
        rw [show T 4 e + (i - T 4 e) = i by omega] at this
        exact this.sub fun c x hx => by unfold cnd; exact List.mem_append.mpr (Or.inl hx)
    have hr := run_rch (n := n) hS hE he ⟨a, b⟩ hq hy many h2 h3 h5
    rw [h1]
    exact ⟨_, hr⟩
  · rintro ⟨c, hc⟩
    obtain ⟨e, i, q, many, he, a, b, hq, _, hR⟩ := rch_VC hS hE k c hk hc
    exact ⟨e, q, i, many, he, hq, a, b, hR⟩
