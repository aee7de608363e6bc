def mk (T : Nat → Nat → Nat) (g : Nat → Nat) (n i p : Nat) : Prop := p < n ∧ g p = T 0 i
def pbi (T : Nat → Nat → Nat) (g : Nat → Nat) (n i lo hi : Nat) (S : Nat → Prop) (p : Nat) : Prop := ∃ t, lo ≤ t ∧ t ≤ hi ∧ S (p + t) ∧ ∀ y, y < t → mk T g n i (p + y)
def bg (T : Nat → Nat → Nat) (g : Nat → Nat) (n : Nat) (S : Nat → Prop) : Nat → Nat → Nat → Prop
  | 0, _, p => S p
  | d + 1, j, p => pbi T g n j (max (T 1 j) 1) (T 2 j) (bg T g n S d (j + 1)) p ∨ (T 1 j = 0 ∧ bg T g n S d (j + 1) p)
def fr (T : Nat → Nat → Nat) (g : Nat → Nat) (n : Nat) (S : Nat → Prop) : Nat → Nat → Nat → Prop
  | 0, _, _ => False
  | d + 1, j, p => pbi T g n j (max (T 1 j) 1) (T 2 j) (bg T g n S d (j + 1)) p ∨ (T 1 j = 0 ∧ fr T g n S d (j + 1) p)
def af (T : Nat → Nat → Nat) (g : Nat → Nat) (n e : Nat) (rest : Nat → Prop) : Nat → Nat → Prop
  | 0, p => rest p
  | r + 1, p => fr T g n (af T g n e rest r) (T 5 e - T 4 e) (T 4 e) p ∨ (T 6 e ≤ T 7 e - (r + 1) ∧ rest p)
def rs (T : Nat → Nat → Nat) (g : Nat → Nat) (n ne : Nat) : Nat → Nat → Prop
  | 0, p => p = n
  | d + 1, p => af T g n (ne - (d + 1)) (rs T g n ne d) (T 7 (ne - (d + 1))) p
def cmp (T : Nat → Nat → Nat) (g : Nat → Nat) (n : Nat) (S : Nat → Prop) (d i many p : Nat) : Prop := ∃ x, T 1 i ≤ many + x ∧ many + x ≤ T 2 i ∧ (∀ y, y < x → mk T g n i (p + y)) ∧ bg T g n S d (i + 1) (p + x)
def CP (T : Nat → Nat → Nat) (g : Nat → Nat) (n ne e i q many p : Nat) : Prop := cmp T g n (af T g n e (rs T g n ne (ne - (e + 1))) (T 7 e - q)) (T 5 e - (i + 1)) i many p
def allo (T : Nat → Nat → Nat) : Nat → Nat → Bool
  | 0, _ => true
  | d + 1, j => decide (T 1 j = 0) && allo T d (j + 1)
def ent (T : Nat → Nat → Nat) (c q : Nat) : Nat → Nat → List Nat
  | 0, _ => []
  | d + 1, j => (if T 0 j = c then [100 * j + 10 * q + 1] else []) ++ (if T 1 j = 0 then ent T c q d (j + 1) else [])
def qq (T : Nat → Nat → Nat) (e q : Nat) : Nat := if T 3 e = 1 then q else 0
def rst (T : Nat → Nat → Nat) (ne c : Nat) : Nat → List Nat
  | 0 => []
  | d + 1 => ent T c (qq T (ne - (d + 1)) 1) (T 5 (ne - (d + 1)) - T 4 (ne - (d + 1))) (T 4 (ne - (d + 1))) ++ (if T 6 (ne - (d + 1)) = 0 then rst T ne c d else [])
def ldp (T : Nat → Nat → Nat) (ne e i q many c : Nat) : List Nat :=
  (if T 0 i = c ∧ many < T 2 i then [100 * i + 10 * q + many + 1] else []) ++
  (if T 1 i ≤ many then (if T 3 e = 1 then ent T c q (T 5 e - (i + 1)) (i + 1) ++ (if allo T (T 5 e - (i + 1)) (i + 1) = true then (if q < T 7 e then ent T c (q + 1) (T 5 e - T 4 e) (T 4 e) else []) ++ (if T 6 e ≤ q then rst T ne c (ne - (e + 1)) else []) else []) else rst T ne c (ne - (e + 1))) else [])
def cnd (T : Nat → Nat → Nat) (ne e q j c : Nat) : List Nat :=
  ent T c (qq T e q) (T 5 e - j) j ++ (if allo T (T 5 e - j) j = true then (if q < T 7 e then ent T c (qq T e (q + 1)) (T 5 e - T 4 e) (T 4 e) else []) ++ (if T 6 e ≤ q then rst T ne c (ne - (e + 1)) else []) else [])
theorem pbi_iff {T : Nat → Nat → Nat} {g : Nat → Nat} {n d j p : Nat} {S : Nat → Prop} : pbi T g n j (max (T 1 j) 1) (T 2 j) (bg T g n S d (j + 1)) p ↔ mk T g n j p ∧ cmp T g n S d j 1 (p + 1) := by
  constructor
  · rintro ⟨t, h1, h2, h3, h4⟩
    obtain ⟨x, rfl⟩ : ∃ x, t = x + 1 := ⟨t - 1, by omega⟩
    refine ⟨by simpa using h4 0 (by omega), x, by omega, by omega, fun y hy => ?_, ?_⟩
    · have := h4 (y + 1) (by omega)
      rwa [show p + (y + 1) = p + 1 + y by omega] at this
    · rwa [show p + (x + 1) = p + 1 + x by omega] at h3
  · rintro ⟨h0, x, h1, h2, h3, h4⟩
    refine ⟨x + 1, by omega, by omega, ?_, fun y hy => ?_⟩
    · rwa [show p + (x + 1) = p + 1 + x by omega]
    · cases y with
      | zero => exact h0
      | succ y =>
        have := h3 y (by omega)
        rwa [show p + 1 + y = p + (y + 1) by omega] at this
theorem cmp_step {T : Nat → Nat → Nat} {g : Nat → Nat} {n d i many p : Nat} {S : Nat → Prop} : cmp T g n S d i many p ↔ (many < T 2 i ∧ mk T g n i p ∧ cmp T g n S d i (many + 1) (p + 1)) ∨ (T 1 i ≤ many ∧ many ≤ T 2 i ∧ bg T g n S d (i + 1) p) := by
  constructor
  · rintro ⟨x, h1, h2, h3, h4⟩
    cases x with
    | zero => exact Or.inr ⟨by omega, by omega, h4⟩
    | succ x =>
      refine Or.inl ⟨by omega, by simpa using h3 0 (by omega), x, by omega, by omega, fun y hy => ?_, ?_⟩
      · have := h3 (y + 1) (by omega)
        rwa [show p + (y + 1) = p + 1 + y by omega] at this
      · rwa [show p + (x + 1) = p + 1 + x by omega] at h4
  · rintro (⟨h1, h2, x, h3, h4, h5, h6⟩ | ⟨h1, h2, h3⟩)
    · refine ⟨x + 1, by omega, by omega, fun y hy => ?_, by rwa [show p + (x + 1) = p + 1 + x by omega]⟩
      cases y with
      | zero => exact h2
      | succ y =>
        have := h5 y (by omega)
        rwa [show p + 1 + y = p + (y + 1) by omega] at this
    · exact ⟨0, h1, h2, fun y hy => absurd hy (Nat.not_lt_zero _), h3⟩
theorem bg_iff {T : Nat → Nat → Nat} {g : Nat → Nat} {n p : Nat} {S : Nat → Prop} : ∀ d j, bg T g n S d j p ↔ fr T g n S d j p ∨ (allo T d j = true ∧ S p) := by
  intro d
  induction d with
  | zero => intro j; simp [bg, fr, allo]
  | succ d ih =>
    intro j
    simp only [bg, fr, allo, ih (j + 1), Bool.and_eq_true, decide_eq_true_eq]
    constructor
    · rintro (h | ⟨h1, h2 | ⟨h3, h4⟩⟩)
      · exact Or.inl (Or.inl h)
      · exact Or.inl (Or.inr ⟨h1, h2⟩)
      · exact Or.inr ⟨⟨h1, h3⟩, h4⟩
    · rintro ((h | ⟨h1, h2⟩) | ⟨⟨h1, h3⟩, h4⟩)
      · exact Or.inl h
      · exact Or.inr ⟨h1, Or.inl h2⟩
      · exact Or.inr ⟨h1, Or.inr ⟨h3, h4⟩⟩
theorem fr_ent {T : Nat → Nat → Nat} {g : Nat → Nat} {n p q : Nat} {S : Nat → Prop} {F : Nat → Bool} (hp : p < n) : ∀ d j, (∀ i, j ≤ i → i < j + d → (F (100 * i + 10 * q + 1) = true ↔ cmp T g n S (j + d - (i + 1)) i 1 (p + 1))) → (fr T g n S d j p ↔ (ent T (g p) q d j).any F = true) := by
  intro d
  induction d with
  | zero => intro j _; simp [fr, ent]
  | succ d ih =>
    intro j h
    have h1 := h j (by omega) (by omega)
    rw [show j + (d + 1) - (j + 1) = d by omega] at h1
    have h2 := ih (j + 1) (fun i a b => by
      have := h i (by omega) (by omega)
      rwa [show j + (d + 1) - (i + 1) = j + 1 + d - (i + 1) by omega] at this)
    simp only [fr, ent, pbi_iff, List.any_append, Bool.or_eq_true, h2, ← h1, mk]
    by_cases z : T 0 j = g p
    · by_cases w : T 1 j = 0 <;> simp [z, w, hp]
    · have z' : ¬ g p = T 0 j := fun q => z q.symm
      by_cases w : T 1 j = 0 <;> simp [z, z', w]
theorem fr_n {T : Nat → Nat → Nat} {g : Nat → Nat} {n : Nat} {S : Nat → Prop} : ∀ d j, ¬ fr T g n S d j n := by
  intro d
  induction d with
  | zero => intro j h; exact h
  | succ d ih =>
    intro j h
    rcases h with h | ⟨_, h⟩
    · have := (pbi_iff.mp h).1.1
      omega
    · exact ih _ h
theorem af_iff {T : Nat → Nat → Nat} {g : Nat → Nat} {n e p q : Nat} {rest : Nat → Prop} (h1 : q ≤ T 7 e) (h2 : T 6 e ≤ T 7 e) : af T g n e rest (T 7 e - q) p ↔ (q < T 7 e ∧ fr T g n (af T g n e rest (T 7 e - (q + 1))) (T 5 e - T 4 e) (T 4 e) p) ∨ (T 6 e ≤ q ∧ rest p) := by
  by_cases z : q = T 7 e
  · subst z
    simp only [Nat.sub_self, af]
    constructor
    · exact fun h => Or.inr ⟨h2, h⟩
    · rintro (⟨h, _⟩ | ⟨_, h⟩)
      · omega
      · exact h
  · obtain ⟨r, hr⟩ : ∃ r, T 7 e - q = r + 1 := ⟨T 7 e - q - 1, by omega⟩
    rw [hr, show T 7 e - (q + 1) = r by omega]
    simp only [af]
    rw [show T 7 e - (r + 1) = q by omega]
    constructor
    · rintro (h | h)
      · exact Or.inl ⟨by omega, h⟩
      · exact Or.inr h
    · rintro (⟨_, h⟩ | h)
      · exact Or.inl h
      · exact Or.inr h
def SF (T : Nat → Nat → Nat) (ni ne : Nat) : Prop := ni ≤ 10 ∧ ne ≤ 10 ∧ (∀ i, i < ni → 1 ≤ T 2 i ∧ T 2 i ≤ 9 ∧ T 1 i ≤ T 2 i ∧ 65 ≤ T 0 i ∧ T 0 i ≤ 90) ∧
  (∀ e, e < ne → T 3 e ≤ 1 ∧ T 4 e < T 5 e ∧ T 5 e ≤ ni ∧ T 6 e ≤ T 7 e ∧ 1 ≤ T 7 e ∧ T 7 e ≤ 9 ∧ (T 3 e = 0 → T 5 e = T 4 e + 1 ∧ T 6 e = min (T 1 (T 4 e)) 1 ∧ T 7 e = 1) ∧ (e + 1 < ne → T 4 (e + 1) = T 5 e)) ∧ (0 < ne → T 4 0 = 0 ∧ T 5 (ne - 1) = ni) ∧ (ne = 0 → ni = 0)
theorem SF.of {T : Nat → Nat → Nat} {ni ne : Nat} (hF : SchF T ni ne false) : SF T ni ne := by
  have hne := hF.ne_le
  obtain ⟨f1, f2, f3, f4, f5, f6, f7⟩ := hF
  refine ⟨f1, by omega, fun i hi => ?_, fun e he => ?_, f5, fun h => (f6 h).1⟩
  · have := f3 i hi
    omega
  · have k := f4 e he
    exact ⟨k.1, k.2.2.2.2.2.2.2.2.2.2 (Or.inl rfl), k.2.2.1, k.2.2.2.2.2.2.2.1, k.2.2.2.2.2.1, k.2.2.2.2.2.2.1, k.2.2.2.2.2.2.2.2.1, k.2.2.2.2.2.2.2.2.2.1⟩
theorem rs_iff {T : Nat → Nat → Nat} {g : Nat → Nat} {n ni ne e p : Nat} (hS : SF T ni ne) (he : e < ne) : rs T g n ne (ne - e) p ↔ fr T g n (af T g n e (rs T g n ne (ne - (e + 1))) (T 7 e - 1)) (T 5 e - T 4 e) (T 4 e) p ∨ (T 6 e = 0 ∧ rs T g n ne (ne - (e + 1)) p) := by
  have k := hS.2.2.2.1 e he
  have h := af_iff (T := T) (g := g) (n := n) (e := e) (p := p) (q := 0) (rest := rs T g n ne (ne - (e + 1))) (by omega) (by omega)
  obtain ⟨d, hd⟩ : ∃ d, ne - e = d + 1 := ⟨ne - e - 1, by omega⟩
  rw [hd]
  simp only [rs]
  rw [show ne - (d + 1) = e by omega, show ne - (e + 1) = d by omega] at *
  rw [Nat.sub_zero] at h
  rw [h]
  constructor
  · rintro (⟨_, z⟩ | ⟨z, w⟩)
    · exact Or.inl z
    · exact Or.inr ⟨by omega, w⟩
  · rintro (z | ⟨z, w⟩)
    · exact Or.inl ⟨by omega, z⟩
    · exact Or.inr ⟨by omega, w⟩
theorem rst_e {T : Nat → Nat → Nat} {ne c e : Nat} (he : e < ne) : rst T ne c (ne - e) = ent T c (qq T e 1) (T 5 e - T 4 e) (T 4 e) ++ (if T 6 e = 0 then rst T ne c (ne - (e + 1)) else []) := by
  obtain ⟨d, hd⟩ : ∃ d, ne - e = d + 1 := ⟨ne - e - 1, by omega⟩
  rw [hd]
  simp only [rst]
  rw [show ne - (d + 1) = e by omega, show ne - (e + 1) = d by omega]
def FOK (T : Nat → Nat → Nat) (g : Nat → Nat) (n ne : Nat) (F : Nat → Bool) (p : Nat) : Prop := ∀ e i q many, e < ne → T 4 e ≤ i → i < T 5 e → 1 ≤ q → q ≤ T 7 e → 1 ≤ many → many ≤ T 2 i → (F (100 * i + 10 * qq T e q + many) = true ↔ CP T g n ne e i q many p)
theorem fr_q {T : Nat → Nat → Nat} {g : Nat → Nat} {n ni ne e q j p : Nat} {F : Nat → Bool} (hS : SF T ni ne) (hF : FOK T g n ne F (p + 1)) (hp : p < n) (he : e < ne) (hq : 1 ≤ q ∧ q ≤ T 7 e) (hj : T 4 e ≤ j ∧ j ≤ T 5 e) :
    fr T g n (af T g n e (rs T g n ne (ne - (e + 1))) (T 7 e - q)) (T 5 e - j) j p ↔ (ent T (g p) (qq T e q) (T 5 e - j) j).any F = true := by
  have k := hS.2.2.2.1 e he
  refine fr_ent hp _ _ fun i a b => ?_
  have := hF e i q 1 he (by omega) (by omega) hq.1 hq.2 (by omega) (hS.2.2.1 i (by omega)).1
  rw [show j + (T 5 e - j) - (i + 1) = T 5 e - (i + 1) by omega]
  exact this
theorem rs_rst {T : Nat → Nat → Nat} {g : Nat → Nat} {n ni ne p : Nat} {F : Nat → Bool} (hS : SF T ni ne) (hF : FOK T g n ne F (p + 1)) (hp : p < n) : ∀ d e, e + d = ne → (rs T g n ne (ne - e) p ↔ (rst T ne (g p) (ne - e)).any F = true) := by
  intro d
  induction d with
  | zero => intro e h; rw [show ne - e = 0 by omega]; simp [rs, rst]; omega
  | succ d ih =>
    intro e h
    have k := hS.2.2.2.1 e (by omega)
    rw [rs_iff hS (by omega), rst_e (by omega), fr_q hS hF hp (by omega) ⟨by omega, by omega⟩ ⟨by omega, by omega⟩, ih (e + 1) (by omega), List.any_append, Bool.or_eq_true]
    by_cases z : T 6 e = 0 <;> simp [z]
theorem af_cnd {T : Nat → Nat → Nat} {g : Nat → Nat} {n ni ne e q p : Nat} {F : Nat → Bool} (hS : SF T ni ne) (hF : FOK T g n ne F (p + 1)) (hp : p < n) (he : e < ne) (hq : 1 ≤ q ∧ q ≤ T 7 e) :
    af T g n e (rs T g n ne (ne - (e + 1))) (T 7 e - q) p ↔ ((if q < T 7 e then ent T (g p) (qq T e (q + 1)) (T 5 e - T 4 e) (T 4 e) else []) ++ (if T 6 e ≤ q then rst T ne (g p) (ne - (e + 1)) else [])).any F = true := by
  have k := hS.2.2.2.1 e he
  rw [af_iff hq.2 k.2.2.2.1, List.any_append, Bool.or_eq_true]
  have h2 := rs_rst hS hF hp (ne - (e + 1)) (e + 1) (by omega)
  rw [h2]
  by_cases z : q < T 7 e
  · rw [fr_q hS hF hp he ⟨by omega, by omega⟩ ⟨by omega, by omega⟩]
    by_cases w : T 6 e ≤ q <;> simp [z, w]
  · by_cases w : T 6 e ≤ q <;> simp [z, w]
theorem bg_cnd {T : Nat → Nat → Nat} {g : Nat → Nat} {n ni ne e q j p : Nat} {F : Nat → Bool} (hS : SF T ni ne) (hF : FOK T g n ne F (p + 1)) (hp : p < n) (he : e < ne) (hq : 1 ≤ q ∧ q ≤ T 7 e) (hj : T 4 e ≤ j ∧ j ≤ T 5 e) :
    bg T g n (af T g n e (rs T g n ne (ne - (e + 1))) (T 7 e - q)) (T 5 e - j) j p ↔ (cnd T ne e q j (g p)).any F = true := by
  rw [bg_iff, fr_q hS hF hp he hq hj, af_cnd hS hF hp he hq]
  unfold cnd
  generalize (if q < T 7 e then ent T (g p) (qq T e (q + 1)) (T 5 e - T 4 e) (T 4 e) else []) ++ (if T 6 e ≤ q then rst T ne (g p) (ne - (e + 1)) else []) = X
  rw [List.any_append, Bool.or_eq_true]
  by_cases w : allo T (T 5 e - j) j = true <;> simp [w]
theorem ldp_cnd {T : Nat → Nat → Nat} {ni ne e i q many c : Nat} (hS : SF T ni ne) (he : e < ne) (hi : T 4 e ≤ i ∧ i < T 5 e) (hq : 1 ≤ q ∧ q ≤ T 7 e) :
    ldp T ne e i (qq T e q) many c = (if T 0 i = c ∧ many < T 2 i then [100 * i + 10 * qq T e q + (many + 1)] else []) ++ (if T 1 i ≤ many then cnd T ne e q (i + 1) c else []) := by
  have k := hS.2.2.2.1 e he
  unfold ldp cnd
  by_cases z : T 3 e = 1
  · simp only [z, if_true, qq, Nat.add_assoc]
  · have k2 := k.2.2.2.2.2.2.1 (by omega)
    have e1 : T 5 e - (i + 1) = 0 := by omega
    have e2 : ¬ q < T 7 e := by omega
    have e3 : T 6 e ≤ q := by omega
    simp [z, qq, e1, e2, e3, ent, allo, Nat.add_assoc]
theorem CP_step {T : Nat → Nat → Nat} {g : Nat → Nat} {n ni ne e i q many p : Nat} {F : Nat → Bool} (hS : SF T ni ne) (hF : FOK T g n ne F (p + 1)) (hp : p < n) (he : e < ne) (hi : T 4 e ≤ i ∧ i < T 5 e) (hq : 1 ≤ q ∧ q ≤ T 7 e) (hm : 1 ≤ many ∧ many ≤ T 2 i) :
    CP T g n ne e i q many p ↔ (ldp T ne e i (qq T e q) many (g p)).any F = true := by
  have k := hS.2.2.2.1 e he
  rw [ldp_cnd hS he hi hq, List.any_append, Bool.or_eq_true]
  unfold CP
  rw [cmp_step, bg_cnd hS hF hp he hq ⟨by omega, by omega⟩]
  have h1 : many < T 2 i → (F (100 * i + 10 * qq T e q + (many + 1)) = true ↔ cmp T g n (af T g n e (rs T g n ne (ne - (e + 1))) (T 7 e - q)) (T 5 e - (i + 1)) i (many + 1) (p + 1)) := fun z => hF e i q (many + 1) he hi.1 hi.2 hq.1 hq.2 (by omega) (by omega)
  unfold mk
  by_cases z : many < T 2 i
  · rw [← h1 z]
    by_cases w : T 0 i = g p
    · by_cases v : T 1 i ≤ many <;> simp [z, w, v, hp, hm.2]
    · have w' : ¬ g p = T 0 i := fun q => w q.symm
      by_cases v : T 1 i ≤ many <;> simp [z, w, w', v, hm.2]
  · by_cases v : T 1 i ≤ many <;> simp [z, v, hm.2]
