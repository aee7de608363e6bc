def skA (T : Nat → Nat → Nat) (ne : Nat) : Nat → Bool
  | 0 => true
  | d + 1 => decide (T 6 (ne - (d + 1)) = 0) && skA T ne d
def cde (T : Nat → Nat → Nat) (ne e i q many : Nat) : Bool := decide (T 1 i ≤ many) && (decide (T 3 e ≠ 1) || decide (T 6 e ≤ q)) && allo T (T 5 e - (i + 1)) (i + 1) && skA T ne (ne - (e + 1))
def ldc (T : Nat → Nat → Nat) (ne : Nat) (eo : Nat → Nat) (pl c : Nat) : List Nat := if pl = 1000 then rst T ne c ne else ldp T ne (eo (pl / 100)) (pl / 100) (pl / 10 % 10) (pl % 10) c
def hop (T : Nat → Nat → Nat) (g : Nat → Nat) (n ni ne : Nat) (eo : Nat → Nat) : Nat → Nat → Bool
  | 0, pl => if pl = 1000 then decide (n = 0) && skA T ne ne else decide (0 < pl % 10 ∧ pl / 100 < ni) && cde T ne (eo (pl / 100)) (pl / 100) (pl / 10 % 10) (pl % 10)
  | r + 1, pl => (if pl = 1000 then decide (n = r + 1) else decide (0 < pl % 10 ∧ pl / 100 < ni)) && (ldc T ne eo pl (g (n - (r + 1)))).any (hop T g n ni ne eo r)
theorem rs_n {T : Nat → Nat → Nat} {g : Nat → Nat} {n ni ne : Nat} (hS : SF T ni ne) : ∀ d e, e + d = ne → (rs T g n ne (ne - e) n ↔ skA T ne (ne - e) = true) := by
  intro d
  induction d with
  | zero => intro e h; rw [show ne - e = 0 by omega]; simp [rs, skA]
  | succ d ih =>
    intro e h
    have h2 := ih (e + 1) (by omega)
    rw [rs_iff hS (by omega), h2]
    have h3 : ¬ fr T g n (af T g n e (rs T g n ne (ne - (e + 1))) (T 7 e - 1)) (T 5 e - T 4 e) (T 4 e) n := fr_n _ _
    rw [show ne - e = (ne - (e + 1)) + 1 by omega]
    simp only [skA]
    rw [show ne - (ne - (e + 1) + 1) = e by omega]
    simp [h3]
theorem CP_end {T : Nat → Nat → Nat} {g : Nat → Nat} {n ni ne e i q many : Nat} (hS : SF T ni ne) (he : e < ne) (hi : T 4 e ≤ i ∧ i < T 5 e) (hq : 1 ≤ q ∧ q ≤ T 7 e) (hm : 1 ≤ many ∧ many ≤ T 2 i) :
    CP T g n ne e i q many n ↔ cde T ne e i (qq T e q) many = true := by
  have k := hS.2.2.2.1 e he
  unfold CP cde
  rw [cmp_step, bg_iff, af_iff hq.2 k.2.2.2.1, rs_n hS (ne - (e + 1)) (e + 1) (by omega)]
  have h1 : ¬ mk T g n i n := fun h => by have := h.1; omega
  have h2 : ∀ S d j, ¬ fr T g n S d j n := fun S d j => fr_n d j
  by_cases z : T 3 e = 1
  · simp [h1, h2, z, qq, hm.2, and_assoc]
    intro _
    rw [and_left_comm]
  · have k2 := k.2.2.2.2.2.2.1 (by omega)
    have e3 : T 6 e ≤ q := by omega
    simp [h1, h2, z, hm.2, e3, and_assoc]
def EO (T : Nat → Nat → Nat) (ne : Nat) (eo : Nat → Nat) : Prop := ∀ e i, e < ne → T 4 e ≤ i → i < T 5 e → eo i = e
theorem qq_le {T : Nat → Nat → Nat} {ni ne e q : Nat} (hS : SF T ni ne) (he : e < ne) (hq : q ≤ T 7 e) : qq T e q ≤ 9 := by
  have k := hS.2.2.2.1 e he
  unfold qq
  split <;> omega
theorem code_d {i q many : Nat} (hi : i < 10) (hq : q ≤ 9) (hm : many ≤ 9) : 100 * i + 10 * q + many ≠ 1000 ∧ (100 * i + 10 * q + many) / 100 = i ∧ (100 * i + 10 * q + many) / 10 % 10 = q ∧ (100 * i + 10 * q + many) % 10 = many := by omega
theorem hop_ok {T : Nat → Nat → Nat} {g : Nat → Nat} {n ni ne : Nat} {eo : Nat → Nat} (hS : SF T ni ne) (hE : EO T ne eo) : ∀ r, r ≤ n → FOK T g n ne (hop T g n ni ne eo r) (n - r) := by
  intro r
  induction r with
  | zero =>
    intro _ e i q many he a b hq1 hq2 hm1 hm2
    have k := hS.2.2.2.1 e he
    have k0 := hS.1
    have k2 := (hS.2.2.1 i (by omega)).2.1
    obtain ⟨c1, c2, c3, c4⟩ := code_d (i := i) (q := qq T e q) (many := many) (by omega) (qq_le hS he hq2) (by omega)
    simp only [hop, c1, c2, c3, c4, if_false, Nat.sub_zero, CP_end hS he ⟨a, b⟩ ⟨hq1, hq2⟩ ⟨hm1, hm2⟩, hE e i he a b]
    simp [show 0 < many by omega, show i < ni by omega]
  | succ r ih =>
    intro hr e i q many he a b hq1 hq2 hm1 hm2
    have k := hS.2.2.2.1 e he
    have k0 := hS.1
    have k2 := (hS.2.2.1 i (by omega)).2.1
    obtain ⟨c1, c2, c3, c4⟩ := code_d (i := i) (q := qq T e q) (many := many) (by omega) (qq_le hS he hq2) (by omega)
    have h := CP_step (p := n - (r + 1)) (F := hop T g n ni ne eo r) hS (by rw [show n - (r + 1) + 1 = n - r by omega]; exact ih (by omega)) (by omega) he ⟨a, b⟩ ⟨hq1, hq2⟩ ⟨hm1, hm2⟩
    rw [h]
    simp only [hop, ldc, c1, c2, c3, c4, if_false, hE e i he a b]
    simp [show 0 < many by omega, show i < ni by omega]
theorem hop_start {T : Nat → Nat → Nat} {g : Nat → Nat} {n ni ne : Nat} {eo : Nat → Nat} (hS : SF T ni ne) (hE : EO T ne eo) : hop T g n ni ne eo n 1000 = true ↔ rs T g n ne ne 0 := by
  cases n with
  | zero =>
    have := rs_n (g := g) (n := 0) hS ne 0 (by omega)
    rw [Nat.sub_zero] at this
    rw [this]
    simp [hop]
  | succ r =>
    have := rs_rst (p := 0) (g := g) (n := r + 1) (F := hop T g (r + 1) ni ne eo r) hS (by have := hop_ok (g := g) (n := r + 1) hS hE r (by omega); rwa [show r + 1 - r = 0 + 1 by omega] at this) (by omega) ne 0 (by omega)
    rw [Nat.sub_zero] at this
    rw [this]
    simp [hop, ldc]
def pth (T : Nat → Nat → Nat) (g : Nat → Nat) (n ni ne : Nat) (eo : Nat → Nat) : Nat → Nat
  | 0 => 1000
  | k + 1 => ((ldc T ne eo (pth T g n ni ne eo k) (g k)).find? (hop T g n ni ne eo (n - (k + 1)))).getD 0
theorem pth_s {T : Nat → Nat → Nat} {g : Nat → Nat} {n ni ne k : Nat} {eo : Nat → Nat} : pth T g n ni ne eo (k + 1) = ((ldc T ne eo (pth T g n ni ne eo k) (g k)).find? (hop T g n ni ne eo (n - (k + 1)))).getD 0 := rfl
def GT (T : Nat → Nat → Nat) (g : Nat → Nat) (n : Nat) (S : Nat → Prop) (d j p x : Nat) : Prop := (T 1 j ≤ x ∧ x ≤ T 2 j ∧ (∀ y, y < x → mk T g n j (p + y)) ∧ bg T g n S d (j + 1) (p + x)) ∧ ∀ z, (T 1 j ≤ z ∧ z ≤ T 2 j ∧ (∀ y, y < z → mk T g n j (p + y)) ∧ bg T g n S d (j + 1) (p + z)) → z ≤ x
def SJ (T : Nat → Nat → Nat) (g : Nat → Nat) (n ni ne : Nat) (eo : Nat → Nat) (e q j p : Nat) : Prop :=
  bg T g n (af T g n e (rs T g n ne (ne - (e + 1))) (T 7 e - q)) (T 5 e - j) j p ∧ (p < n → (ldc T ne eo (pth T g n ni ne eo p) (g p)).find? (hop T g n ni ne eo (n - (p + 1))) = (cnd T ne e q j (g p)).find? (hop T g n ni ne eo (n - (p + 1))))
def SN (T : Nat → Nat → Nat) (g : Nat → Nat) (n ni ne : Nat) (eo : Nat → Nat) (e q p : Nat) : Prop :=
  af T g n e (rs T g n ne (ne - (e + 1))) (T 7 e - q) p ∧ (p < n → (ldc T ne eo (pth T g n ni ne eo p) (g p)).find? (hop T g n ni ne eo (n - (p + 1))) = ((if q < T 7 e then ent T (g p) (qq T e (q + 1)) (T 5 e - T 4 e) (T 4 e) else []) ++ (if T 6 e ≤ q then rst T ne (g p) (ne - (e + 1)) else [])).find? (hop T g n ni ne eo (n - (p + 1))))
def S0 (T : Nat → Nat → Nat) (g : Nat → Nat) (n ni ne : Nat) (eo : Nat → Nat) (e p : Nat) : Prop :=
  rs T g n ne (ne - e) p ∧ (p < n → (ldc T ne eo (pth T g n ni ne eo p) (g p)).find? (hop T g n ni ne eo (n - (p + 1))) = (rst T ne (g p) (ne - e)).find? (hop T g n ni ne eo (n - (p + 1))))
theorem S0.start {T : Nat → Nat → Nat} {g : Nat → Nat} {n ni ne : Nat} {eo : Nat → Nat} (hS : SF T ni ne) (hE : EO T ne eo) (h0 : hop T g n ni ne eo n 1000 = true) : S0 T g n ni ne eo 0 0 := by
  refine ⟨(hop_start hS hE).mp h0, fun _ => ?_⟩
  simp [pth, ldc]
theorem S0.next {T : Nat → Nat → Nat} {g : Nat → Nat} {n ni ne e p : Nat} {eo : Nat → Nat} (hS : SF T ni ne) (he : e < ne) (h : S0 T g n ni ne eo e p) : SN T g n ni ne eo e 0 p := by
  have k := hS.2.2.2.1 e he
  obtain ⟨h1, h2⟩ := h
  refine ⟨?_, fun hp => ?_⟩
  · rw [rs_iff hS he] at h1
    rw [af_iff (by omega) k.2.2.2.1]
    rcases h1 with h | ⟨h, w⟩
    · exact Or.inl ⟨by omega, h⟩
    · exact Or.inr ⟨by omega, w⟩
  · rw [h2 hp, rst_e he, if_pos (show 0 < T 7 e by omega)]
    congr 2
    by_cases z : T 6 e = 0
    · rw [if_pos z, if_pos (by omega)]
    · rw [if_neg z, if_neg (by omega)]
theorem fr_lt {T : Nat → Nat → Nat} {g : Nat → Nat} {n p : Nat} {S : Nat → Prop} : ∀ d j, fr T g n S d j p → p < n := by
  intro d
  induction d with
  | zero => intro j h; exact h.elim
  | succ d ih =>
    intro j h
    rcases h with h | ⟨_, h⟩
    · exact (pbi_iff.mp h).1.1
    · exact ih _ h
theorem find_app_t {l m : List Nat} {F : Nat → Bool} (h : l.any F = true) : (l ++ m).find? F = l.find? F := by
  rw [List.find?_append]
  cases hf : l.find? F with
  | some y => rfl
  | none =>
    obtain ⟨x, hx, hx2⟩ := List.any_eq_true.mp h
    exact absurd hx2 (List.find?_eq_none.mp hf x hx)
theorem find_app_f {l m : List Nat} {F : Nat → Bool} (h : ¬ l.any F = true) : (l ++ m).find? F = m.find? F := by
  rw [List.find?_append]
  have : l.find? F = none := List.find?_eq_none.mpr fun x hx hx2 => h (List.any_eq_true.mpr ⟨x, hx, hx2⟩)
  rw [this]
  rfl
theorem SN.go {T : Nat → Nat → Nat} {g : Nat → Nat} {n ni ne e q p : Nat} {eo : Nat → Nat} (hS : SF T ni ne) (hE : EO T ne eo) (he : e < ne) (hq : q < T 7 e) (h : SN T g n ni ne eo e q p)
    (hf : fr T g n (af T g n e (rs T g n ne (ne - (e + 1))) (T 7 e - (q + 1))) (T 5 e - T 4 e) (T 4 e) p) : SJ T g n ni ne eo e (q + 1) (T 4 e) p := by
  have k := hS.2.2.2.1 e he
  obtain ⟨h1, h2⟩ := h
  have hp := fr_lt _ _ hf
  refine ⟨(bg_iff _ _).mpr (Or.inl hf), fun _ => ?_⟩
  have hF : FOK T g n ne (hop T g n ni ne eo (n - (p + 1))) (p + 1) := by
    have := hop_ok (g := g) (n := n) hS hE (n - (p + 1)) (by omega)
    rwa [show n - (n - (p + 1)) = p + 1 by omega] at this
  have ha := (fr_q hS hF hp he ⟨by omega, by omega⟩ ⟨by omega, by omega⟩).mp hf
  rw [h2 hp, if_pos hq, find_app_t ha]
  unfold cnd
  rw [find_app_t ha]
theorem SN.stop {T : Nat → Nat → Nat} {g : Nat → Nat} {n ni ne e q p : Nat} {eo : Nat → Nat} (hS : SF T ni ne) (hE : EO T ne eo) (he : e < ne) (hq : q ≤ T 7 e) (h : SN T g n ni ne eo e q p)
    (hf : q < T 7 e → ¬ fr T g n (af T g n e (rs T g n ne (ne - (e + 1))) (T 7 e - (q + 1))) (T 5 e - T 4 e) (T 4 e) p) : S0 T g n ni ne eo (e + 1) p := by
  have k := hS.2.2.2.1 e he
  obtain ⟨h1, h2⟩ := h
  rw [af_iff hq k.2.2.2.1] at h1
  rcases h1 with ⟨z, w⟩ | ⟨z, w⟩
  · exact absurd w (hf z)
  · refine ⟨w, fun hp => ?_⟩
    have hF : FOK T g n ne (hop T g n ni ne eo (n - (p + 1))) (p + 1) := by
      have := hop_ok (g := g) (n := n) hS hE (n - (p + 1)) (by omega)
      rwa [show n - (n - (p + 1)) = p + 1 by omega] at this
    rw [h2 hp, if_pos z]
    by_cases v : q < T 7 e
    · rw [if_pos v, find_app_f]
      exact fun u => hf v ((fr_q hS hF hp he ⟨by omega, by omega⟩ ⟨by omega, by omega⟩).mpr u)
    · rw [if_neg v, List.nil_append]
theorem SJ.done {T : Nat → Nat → Nat} {g : Nat → Nat} {n ni ne e q p : Nat} {eo : Nat → Nat} (h : SJ T g n ni ne eo e q (T 5 e) p) : SN T g n ni ne eo e q p := by
  obtain ⟨h1, h2⟩ := h
  rw [Nat.sub_self] at h1
  refine ⟨h1, fun hp => ?_⟩
  rw [h2 hp]
  unfold cnd
  rw [Nat.sub_self]
  simp [ent, allo]
theorem cnd_e {T : Nat → Nat → Nat} {ne e q j c : Nat} (hj : j < T 5 e) (h0 : T 1 j = 0) : cnd T ne e q j c = (if T 0 j = c then [100 * j + 10 * qq T e q + 1] else []) ++ cnd T ne e q (j + 1) c := by
  unfold cnd
  obtain ⟨d, hd⟩ : ∃ d, T 5 e - j = d + 1 := ⟨T 5 e - j - 1, by omega⟩
  rw [hd, show T 5 e - (j + 1) = d by omega]
  simp [ent, allo, h0]
theorem cnd_h {T : Nat → Nat → Nat} {ne e q j c : Nat} (hj : j < T 5 e) (h0 : T 0 j = c) : ∃ l, cnd T ne e q j c = (100 * j + 10 * qq T e q + 1) :: l := by
  unfold cnd
  obtain ⟨d, hd⟩ : ∃ d, T 5 e - j = d + 1 := ⟨T 5 e - j - 1, by omega⟩
  rw [hd]
  simp [ent, h0]
theorem SJ.step {T : Nat → Nat → Nat} {g : Nat → Nat} {n ni ne e q j p x : Nat} {eo : Nat → Nat} (hS : SF T ni ne) (hE : EO T ne eo) (he : e < ne) (hq : 1 ≤ q ∧ q ≤ T 7 e) (hj : T 4 e ≤ j ∧ j < T 5 e) (h : SJ T g n ni ne eo e q j p)
    (hG : GT T g n (af T g n e (rs T g n ne (ne - (e + 1))) (T 7 e - q)) (T 5 e - (j + 1)) j p x) :
    (∀ y, y < x → pth T g n ni ne eo (p + y + 1) = 100 * j + 10 * qq T e q + (y + 1)) ∧ SJ T g n ni ne eo e q (j + 1) (p + x) := by
  have k := hS.2.2.2.1 e he
  have k0 := hS.1
  have k2 := hS.2.2.1 j (by omega)
  obtain ⟨h1, h2⟩ := h
  obtain ⟨⟨g1, g2, g3, g4⟩, g5⟩ := hG
  have hF : ∀ p, p < n → FOK T g n ne (hop T g n ni ne eo (n - (p + 1))) (p + 1) := fun p hp => by
    have := hop_ok (g := g) (n := n) hS hE (n - (p + 1)) (by omega)
    rwa [show n - (n - (p + 1)) = p + 1 by omega] at this
  have hC : ∀ y, y < n - p → y < T 2 j → (hop T g n ni ne eo (n - (p + y + 1)) (100 * j + 10 * qq T e q + (y + 1)) = true ↔ CP T g n ne e j q (y + 1) (p + y + 1)) := fun y a b => hF (p + y) (by omega) e j q (y + 1) he hj.1 hj.2 hq.1 hq.2 (by omega) (by omega)
  have hT : ∀ y, y < x → CP T g n ne e j q (y + 1) (p + y + 1) := fun y hy => ⟨x - (y + 1), by omega, by omega, fun z hz => by
      have := g3 (y + 1 + z) (by omega)
      rwa [show p + (y + 1 + z) = p + y + 1 + z by omega] at this, by rwa [show p + y + 1 + (x - (y + 1)) = p + x by omega]⟩
  have hN : x < T 2 j → mk T g n j (p + x) → ¬ CP T g n ne e j q (x + 1) (p + x + 1) := fun hx hm ⟨z, z1, z2, z3, z4⟩ => by
    have := g5 (x + 1 + z) ⟨by omega, by omega, fun y hy => ?_, by rwa [show p + (x + 1 + z) = p + x + 1 + z by omega]⟩
    · omega
    · by_cases a : y < x
      · exact g3 y a
      · by_cases b : y = x
        · subst b
          exact hm
        · have := z3 (y - (x + 1)) (by omega)
          rwa [show p + x + 1 + (y - (x + 1)) = p + y by omega] at this
  have hlt : ∀ y, y < x → p + y < n := fun y hy => (g3 y hy).1
  have hP : ∀ y, y < x → pth T g n ni ne eo (p + y + 1) = 100 * j + 10 * qq T e q + (y + 1) := by
    intro y
    induction y with
    | zero =>
      intro hy
      have hp := hlt 0 hy
      have hm := g3 0 hy
      obtain ⟨l, hl⟩ := cnd_h (T := T) (ne := ne) (q := q) hj.2 hm.2.symm
      have hc := (hC 0 (by omega) (by omega)).mpr (hT 0 hy)
      rw [Nat.add_zero] at hl hm hc hp ⊢
      rw [pth_s, h2 hp, hl, List.find?_cons_of_pos hc]
      rfl
    | succ y ih =>
      intro hy
      have hp := hlt (y + 1) hy
      have hm := g3 (y + 1) hy
      have hc := (hC (y + 1) (by omega) (by omega)).mpr (hT (y + 1) hy)
      have ih2 := ih (by omega)
      obtain ⟨c1, c2, c3, c4⟩ := code_d (i := j) (q := qq T e q) (many := y + 1) (by omega) (qq_le hS he hq.2) (by omega)
      rw [show p + (y + 1) = p + y + 1 by omega] at *
      rw [pth_s, ih2, ldc, if_neg c1, c2, c3, c4, hE e j he hj.1 hj.2, ldp_cnd hS he hj hq, if_pos ⟨hm.2.symm, by omega⟩, List.singleton_append, List.find?_cons_of_pos hc]
      rfl
  refine ⟨hP, g4, fun hp => ?_⟩
  have hc := hC x (by omega)
  have skip : ∀ (l : List Nat) (m : Nat), (x < m → x < T 2 j) → ((if T 0 j = g (p + x) ∧ x < m then [100 * j + 10 * qq T e q + (x + 1)] else []) ++ l).find? (hop T g n ni ne eo (n - (p + x + 1))) = l.find? (hop T g n ni ne eo (n - (p + x + 1))) := fun l m hm => by
    by_cases z : T 0 j = g (p + x) ∧ x < m
    · rw [if_pos z, List.singleton_append, List.find?_cons_of_neg]
      intro w
      exact hN (hm z.2) ⟨hp, z.1.symm⟩ ((hc (hm z.2)).mp w)
    · rw [if_neg z, List.nil_append]
  cases x with
  | zero =>
    have hp : p < n := hp
    show (ldc T ne eo (pth T g n ni ne eo p) (g p)).find? (hop T g n ni ne eo (n - (p + 1))) = (cnd T ne e q (j + 1) (g p)).find? (hop T g n ni ne eo (n - (p + 1)))
    rw [h2 hp, cnd_e hj.2 (by omega)]
    have := skip (cnd T ne e q (j + 1) (g p)) 1 (fun _ => by omega)
    simpa using this
  | succ x =>
    have ih2 := hP x (by omega)
    obtain ⟨c1, c2, c3, c4⟩ := code_d (i := j) (q := qq T e q) (many := x + 1) (by omega) (qq_le hS he hq.2) (by omega)
    rw [show p + (x + 1) = p + x + 1 by omega] at *
    rw [ih2, ldc, if_neg c1, c2, c3, c4, hE e j he hj.1 hj.2, ldp_cnd hS he hj hq, if_pos g1]
    exact skip _ (T 2 j) (fun h => h)
