theorem bi_and (a b : Nat) : nI a &&& nI b = nI (a &&& b) := by
  apply Int32.toBitVec_inj.1
  show BitVec.ofNat 32 a &&& BitVec.ofNat 32 b = BitVec.ofNat 32 (a &&& b)
  apply BitVec.eq_of_getLsbD_eq
  intro i hi
  simp [hi]
theorem bi_or (a b : Nat) : nI a ||| nI b = nI (a ||| b) := by
  apply Int32.toBitVec_inj.1
  show BitVec.ofNat 32 a ||| BitVec.ofNat 32 b = BitVec.ofNat 32 (a ||| b)
  apply BitVec.eq_of_getLsbD_eq
  intro i hi
  simp [hi]
theorem bi_sl : ∀ n, n < 32 → ((nI n &&& 31).toBitVec.smod 32).toNat = n := by decide +kernel
def Bt (v : Int32) (P : Nat → Prop) : Prop := ∃ s, s < 2 ^ 19 ∧ v = nI s ∧ ∀ p, s.testBit p = true ↔ P p
theorem Bt.cg {v : Int32} {P Q : Nat → Prop} (h : Bt v P) (hc : ∀ p, P p ↔ Q p) : Bt v Q := by
  obtain ⟨s, h1, h2, h3⟩ := h
  exact ⟨s, h1, h2, fun p => (h3 p).trans (hc p)⟩
theorem Bt.or {v w : Int32} {P Q : Nat → Prop} (h : Bt v P) (h' : Bt w Q) : Bt (v ||| w) (fun p => P p ∨ Q p) := by
  obtain ⟨s, h1, rfl, h3⟩ := h
  obtain ⟨t, k1, rfl, k3⟩ := h'
  refine ⟨s ||| t, Nat.or_lt_two_pow h1 k1, bi_or s t, fun p => ?_⟩
  rw [Nat.testBit_or, Bool.or_eq_true, h3, k3]
theorem Bt.zero : Bt 0 (fun _ => False) := ⟨0, by omega, rfl, fun p => by simp⟩
theorem Bt.none {P : Nat → Prop} (h : Bt 0 P) (p : Nat) : ¬ P p := by
  obtain ⟨s, h1, h2, h3⟩ := h
  have : s = 0 := ((nI_eq (a := 0) (b := s) (by omega) (by omega)).mp h2).symm
  subst this
  intro h
  have := (h3 p).mpr h
  simp at this
theorem Bt.shr {v w : Int32} {P Q : Nat → Prop} (h : Bt v P) (h' : Bt w Q) : Bt ((v >>> (1 &&& 31)) &&& w) (fun p => P (p + 1) ∧ Q p) := by
  obtain ⟨s, h1, rfl, h3⟩ := h
  obtain ⟨t, k1, rfl, k3⟩ := h'
  rw [pk_shrN (by omega) _ 1 (by decide), bi_and]
  refine ⟨_, Nat.and_lt_two_pow _ k1, rfl, fun p => ?_⟩
  rw [Nat.testBit_and, Bool.and_eq_true, k3, Nat.testBit_div_two_pow, h3]
theorem Bt.shl {v w : Int32} {P Q : Nat → Prop} (h : Bt v P) (h' : Bt w Q) (hq : ∀ p, Q p → p < 18) : Bt ((v &&& w) <<< (1 &&& 31)) (fun p => ∃ r, p = r + 1 ∧ P r ∧ Q r) := by
  obtain ⟨s, h1, rfl, h3⟩ := h
  obtain ⟨t, k1, rfl, k3⟩ := h'
  have ht : t < 2 ^ 18 := Nat.lt_pow_two_of_testBit t fun i hi => by
    cases hb : t.testBit i with
    | false => rfl
    | true => have := hq i ((k3 i).mp hb); omega
  have hst : (s &&& t) < 2 ^ 18 := Nat.and_lt_two_pow _ ht
  rw [bi_and, pk_shlN _ 1 (by decide) (by omega)]
  refine ⟨_, by omega, rfl, fun p => ?_⟩
  rw [Nat.testBit_mul_two_pow]
  cases p with
  | zero => simp
  | succ p =>
    simp only [Nat.testBit_and, Bool.and_eq_true, decide_eq_true_eq, Nat.add_sub_cancel, h3, k3]
    constructor
    · rintro ⟨_, a, b⟩; exact ⟨p, rfl, a, b⟩
    · rintro ⟨r, a, b, c⟩
      have : r = p := by omega
      subst this
      exact ⟨by omega, b, c⟩
theorem Bt.one {k : Nat} (hk : k < 19) : Bt ((1 : Int32) <<< (nI k &&& 31)) (fun p => p = k) := by
  have h : (2 : Nat) ^ k < 2 ^ 19 := Nat.pow_lt_pow_right (by decide) hk
  have e := pk_shlN (n := 1) (nI k &&& 31) k (bi_sl k (by omega)) (by omega)
  rw [Nat.one_mul] at e
  refine ⟨2 ^ k, h, e, fun p => ?_⟩
  rw [Nat.testBit_two_pow, decide_eq_true_eq]
  exact eq_comm
theorem Bt.has {v : Int32} {P : Nat → Prop} {k : Nat} (h : Bt v P) (hk : k < 31) : (v >>> (nI k &&& 31)) &&& 1 = 1 ↔ P k := by
  obtain ⟨s, h1, rfl, h3⟩ := h
  rw [pk_shrN (by omega) _ k (bi_sl k (by omega)), show (1 : Int32) = nI 1 from rfl, bi_and, ← h3, Nat.testBit_eq_decide_div_mod_eq, decide_eq_true_eq, Nat.and_one_is_mod]
  exact nI_eq (by have := Nat.mod_lt (s / 2 ^ k) (show 2 > 0 by omega); omega) (by omega)
theorem contains_t {v : Int32} {P : Nat → Prop} {k : Nat} {J : Mem} (h : Bt v P) (hk : k < 31) (hp : P k) : m_X3_contains v (nI k) J = some 1 := by
  unfold m_X3_contains
  rw [if_pos ((h.has hk).mpr hp)]
theorem contains_f {v : Int32} {P : Nat → Prop} {k : Nat} {J : Mem} (h : Bt v P) (hk : k < 31) (hp : ¬ P k) : m_X3_contains v (nI k) J = some 0 := by
  unfold m_X3_contains
  rw [if_neg fun q => hp ((h.has hk).mp q)]
theorem at10 {a i : Nat} {I : Mem} (h : i < 10) : m_X3_at10 a (nI i) I = some (I a i) := by
  have e1 : ¬ nI i < 0 := nI_pos (by omega)
  have e2 : ¬ (10 : Int32) ≤ nI i := nI_ge (a := i) (b := 10) h (by omega)
  have e3 : inb (nI i) 10 = true := inb_n h (by omega)
  have e4 : (nI i).toNatClampNeg = i := nI_clamp (by omega)
  simp only [m_X3_at10, e1, e2, e3, e4, gd_t, if_false]
theorem put10 {a i : Nat} {v : Int32} {I : Mem} (h : i < 10) : m_X3_put10 a (nI i) v I = some (ms I a i v) := by
  have e1 : ¬ nI i < 0 := nI_pos (by omega)
  have e2 : ¬ (10 : Int32) ≤ nI i := nI_ge (a := i) (b := 10) h (by omega)
  have e3 : inb (nI i) 10 = true := inb_n h (by omega)
  have e4 : (nI i).toNatClampNeg = i := nI_clamp (by omega)
  simp only [m_X3_put10, e1, e2, e3, e4, gd_t, bnd, if_false]
theorem at11 {a i : Nat} {I : Mem} (h : i < 11) : m_X3_at11 a (nI i) I = some (I a i) := by
  have e1 : ¬ nI i < 0 := nI_pos (by omega)
  have e2 : ¬ (11 : Int32) ≤ nI i := nI_ge (a := i) (b := 11) h (by omega)
  have e3 : inb (nI i) 11 = true := inb_n h (by omega)
  have e4 : (nI i).toNatClampNeg = i := nI_clamp (by omega)
  simp only [m_X3_at11, e1, e2, e3, e4, gd_t, if_false]
theorem put11 {a i : Nat} {v : Int32} {I : Mem} (h : i < 11) : m_X3_put11 a (nI i) v I = some (ms I a i v) := by
  have e1 : ¬ nI i < 0 := nI_pos (by omega)
  have e2 : ¬ (11 : Int32) ≤ nI i := nI_ge (a := i) (b := 11) h (by omega)
  have e3 : inb (nI i) 11 = true := inb_n h (by omega)
  have e4 : (nI i).toNatClampNeg = i := nI_clamp (by omega)
  simp only [m_X3_put11, e1, e2, e3, e4, gd_t, bnd, if_false]
theorem at12 {a i : Nat} {I : Mem} (h : i < 12) : m_X3_at12 a (nI i) I = some (I a i) := by
  have e1 : ¬ nI i < 0 := nI_pos (by omega)
  have e2 : ¬ (12 : Int32) ≤ nI i := nI_ge (a := i) (b := 12) h (by omega)
  have e3 : inb (nI i) 12 = true := inb_n h (by omega)
  have e4 : (nI i).toNatClampNeg = i := nI_clamp (by omega)
  simp only [m_X3_at12, e1, e2, e3, e4, gd_t, if_false]
theorem put12 {a i : Nat} {v : Int32} {I : Mem} (h : i < 12) : m_X3_put12 a (nI i) v I = some (ms I a i v) := by
  have e1 : ¬ nI i < 0 := nI_pos (by omega)
  have e2 : ¬ (12 : Int32) ≤ nI i := nI_ge (a := i) (b := 12) h (by omega)
  have e3 : inb (nI i) 12 = true := inb_n h (by omega)
  have e4 : (nI i).toNatClampNeg = i := nI_clamp (by omega)
  simp only [m_X3_put12, e1, e2, e3, e4, gd_t, bnd, if_false]
theorem pBI {J : Mem} {T : Nat → Nat → Nat} {g : Nat → Nat} {n i lo hi : Nat} {v mv : Int32} {S : Nat → Prop} (hm : Bt mv (mk T g n i)) (hlo : lo ≤ 9) (hhi : hi ≤ 9) (hv : Bt v S) :
    ∃ w, m_X3_placesBeforeItem mv (nI lo) (nI hi) v J = some w ∧ Bt w (pbi T g n i lo hi S) := by
  obtain ⟨b, f1, f2⟩ := loop_run (body := fun a => m_X3_placesBeforeItem_b9 mv (nI lo) (nI hi) a.1 a.2.1 a.2.2 J)
    (Inv := fun r a => ∃ t, t ≤ hi + 1 ∧ r = hi + 1 - t ∧ a.2.2 = nI t ∧ Bt a.1 (fun p => ∃ u, u < t ∧ lo ≤ u ∧ S (p + u) ∧ ∀ y, y < u → mk T g n i (p + y)) ∧ Bt a.2.1 (fun p => S (p + t) ∧ ∀ y, y < t → mk T g n i (p + y)))
    (Post := fun b => Bt b (pbi T g n i lo hi S)) (fun r a ⟨t, h1, h2, h3, h4, h5⟩ => by
      obtain ⟨x5, x6, x7⟩ := a
      simp only at h3 h4 h5
      subst h3
      by_cases z : hi < t
      · have c : nI hi < nI t := nI_lt z (by omega)
        refine Or.inl ⟨x5, by simp [m_X3_placesBeforeItem_b9, c], h4.cg fun p => ?_⟩
        constructor
        · rintro ⟨u, a, b, c, d⟩; exact ⟨u, b, by omega, c, d⟩
        · rintro ⟨u, a, b, c, d⟩; exact ⟨u, by omega, a, c, d⟩
      · have c : ¬ nI hi < nI t := nI_nlt (by omega) (by omega)
        by_cases w : x6 = 0
        · subst w
          refine Or.inl ⟨x5, by simp [m_X3_placesBeforeItem_b9, c], h4.cg fun p => ?_⟩
          constructor
          · rintro ⟨u, a, b, c, d⟩; exact ⟨u, b, by omega, c, d⟩
          · rintro ⟨u, a, b, c, d⟩
            refine ⟨u, Nat.lt_of_not_le fun hu => ?_, a, c, d⟩
            refine h5.none (p + (u - t)) ⟨by rwa [show p + (u - t) + t = p + u by omega], fun y hy => ?_⟩
            have := d (u - t + y) (by omega)
            rwa [show p + (u - t + y) = p + (u - t) + y by omega] at this
        · have nx := (h5.shr hm).cg (Q := fun p => S (p + (t + 1)) ∧ ∀ y, y < t + 1 → mk T g n i (p + y)) fun p => by
            constructor
            · rintro ⟨⟨a, b⟩, c⟩
              refine ⟨by rwa [show p + (t + 1) = p + 1 + t by omega], fun y hy => ?_⟩
              cases y with
              | zero => exact c
              | succ y => have := b y (by omega); rwa [show p + 1 + y = p + (y + 1) by omega] at this
            · rintro ⟨a, b⟩
              refine ⟨⟨by rwa [show p + 1 + t = p + (t + 1) by omega], fun y hy => ?_⟩, b 0 (by omega)⟩
              have := b (y + 1) (by omega)
              rwa [show p + (y + 1) = p + 1 + y by omega] at this
          have e3 : nI t + 1 = nI (t + 1) := nI_1 t
          by_cases l : t < lo
          · have c2 : nI t < nI lo := nI_lt l (by omega)
            refine Or.inr ⟨(x5, (x6 >>> (1 &&& 31)) &&& mv, nI (t + 1)), hi + 1 - (t + 1), by omega, by simp [m_X3_placesBeforeItem_b9, c, w, c2, m_X3_placesBeforeItem_j33, e3], t + 1, by omega, rfl, rfl, h4.cg fun p => ?_, nx⟩
            constructor
            · rintro ⟨u, a, b, c, d⟩; exact ⟨u, by omega, b, c, d⟩
            · rintro ⟨u, a, b, c, d⟩; exact ⟨u, by omega, b, c, d⟩
          · have c2 : ¬ nI t < nI lo := nI_nlt (by omega) (by omega)
            refine Or.inr ⟨(x5 ||| x6, (x6 >>> (1 &&& 31)) &&& mv, nI (t + 1)), hi + 1 - (t + 1), by omega, by simp [m_X3_placesBeforeItem_b9, c, w, c2, m_X3_placesBeforeItem_j33, e3], t + 1, by omega, rfl, rfl, (h4.or h5).cg fun p => ?_, nx⟩
            constructor
            · rintro (⟨u, a, b, c, d⟩ | ⟨a, b⟩)
              · exact ⟨u, by omega, b, c, d⟩
              · exact ⟨t, by omega, by omega, a, b⟩
            · rintro ⟨u, a, b, c', d'⟩
              by_cases z : u = t
              · subst z; exact Or.inr ⟨c', d'⟩
              · exact Or.inl ⟨u, by omega, b, c', d'⟩) FU (hi + 1) ((0 : Int32), v, (0 : Int32)) (by unfold FU; omega)
    ⟨0, by omega, rfl, rfl, Bt.zero.cg fun p => ⟨fun h => h.elim, fun ⟨u, a, _⟩ => absurd a (Nat.not_lt_zero _)⟩, hv.cg fun p => ⟨fun h => ⟨h, fun y hy => absurd hy (Nat.not_lt_zero _)⟩, fun h => h.1⟩⟩
  exact ⟨b, by simp [m_X3_placesBeforeItem, f1], f2⟩
def pfi (T : Nat → Nat → Nat) (g : Nat → Nat) (n i lo hi : Nat) (S : Nat → Prop) (p : Nat) : Prop := ∃ s t, p = s + t ∧ lo ≤ t ∧ t ≤ hi ∧ S s ∧ ∀ y, y < t → mk T g n i (s + y)
theorem pFI {J : Mem} {T : Nat → Nat → Nat} {g : Nat → Nat} {n i lo hi : Nat} {v mv : Int32} {S : Nat → Prop} (hn : n ≤ 18) (hm : Bt mv (mk T g n i)) (hlo : lo ≤ 9) (hhi : hi ≤ 9) (hv : Bt v S) :
    ∃ w, m_X3_placesBehindItem mv (nI lo) (nI hi) v J = some w ∧ Bt w (pfi T g n i lo hi S) := by
  obtain ⟨b, f1, f2⟩ := loop_run (body := fun a => m_X3_placesBehindItem_b9 mv (nI lo) (nI hi) a.1 a.2.1 a.2.2 J)
    (Inv := fun r a => ∃ t, t ≤ hi + 1 ∧ r = hi + 1 - t ∧ a.2.2 = nI t ∧ Bt a.1 (fun p => ∃ s u, p = s + u ∧ u < t ∧ lo ≤ u ∧ S s ∧ ∀ y, y < u → mk T g n i (s + y)) ∧ Bt a.2.1 (fun p => ∃ s, p = s + t ∧ S s ∧ ∀ y, y < t → mk T g n i (s + y)))
    (Post := fun b => Bt b (pfi T g n i lo hi S)) (fun r a ⟨t, h1, h2, h3, h4, h5⟩ => by
      obtain ⟨x5, x6, x7⟩ := a
      simp only at h3 h4 h5
      subst h3
      by_cases z : hi < t
      · have c : nI hi < nI t := nI_lt z (by omega)
        refine Or.inl ⟨x5, by simp [m_X3_placesBehindItem_b9, c], h4.cg fun p => ?_⟩
        constructor
        · rintro ⟨s, u, a, b, c, d⟩; exact ⟨s, u, a, c, by omega, d⟩
        · rintro ⟨s, u, a, b, c, d⟩; exact ⟨s, u, a, by omega, b, d⟩
      · have c : ¬ nI hi < nI t := nI_nlt (by omega) (by omega)
        by_cases w : x6 = 0
        · subst w
          refine Or.inl ⟨x5, by simp [m_X3_placesBehindItem_b9, c], h4.cg fun p => ?_⟩
          constructor
          · rintro ⟨s, u, a, b, c, d⟩; exact ⟨s, u, a, c, by omega, d⟩
          · rintro ⟨s, u, a, b, c, d, e⟩
            exact ⟨s, u, a, Nat.lt_of_not_le fun hu => h5.none (s + t) ⟨s, rfl, d, fun y hy => e y (by omega)⟩, b, d, e⟩
        · have nx := (h5.shl hm (fun p hp => by have := hp.1; omega)).cg (Q := fun p => ∃ s, p = s + (t + 1) ∧ S s ∧ ∀ y, y < t + 1 → mk T g n i (s + y)) fun p => by
            constructor
            · rintro ⟨r, rfl, ⟨s, rfl, b, c⟩, d⟩
              refine ⟨s, by omega, b, fun y hy => ?_⟩
              by_cases k : y < t
              · exact c y k
              · rw [show y = t by omega]; exact d
            · rintro ⟨s, rfl, b, c⟩
              exact ⟨s + t, by omega, ⟨s, rfl, b, fun y hy => c y (by omega)⟩, c t (by omega)⟩
          have e3 : nI t + 1 = nI (t + 1) := nI_1 t
          by_cases l : t < lo
          · have c2 : nI t < nI lo := nI_lt l (by omega)
            refine Or.inr ⟨(x5, (x6 &&& mv) <<< (1 &&& 31), nI (t + 1)), hi + 1 - (t + 1), by omega, by simp [m_X3_placesBehindItem_b9, c, w, c2, m_X3_placesBehindItem_j33, e3], t + 1, by omega, rfl, rfl, h4.cg fun p => ?_, nx⟩
            constructor
            · rintro ⟨s, u, a, b, c, d⟩; exact ⟨s, u, a, by omega, c, d⟩
            · rintro ⟨s, u, a, b, c, d⟩; exact ⟨s, u, a, by omega, c, d⟩
          · have c2 : ¬ nI t < nI lo := nI_nlt (by omega) (by omega)
            refine Or.inr ⟨(x5 ||| x6, (x6 &&& mv) <<< (1 &&& 31), nI (t + 1)), hi + 1 - (t + 1), by omega, by simp [m_X3_placesBehindItem_b9, c, w, c2, m_X3_placesBehindItem_j33, e3], t + 1, by omega, rfl, rfl, (h4.or h5).cg fun p => ?_, nx⟩
            constructor
            · rintro (⟨s, u, a, b, c, d⟩ | ⟨s, a, b, c⟩)
              · exact ⟨s, u, a, by omega, c, d⟩
              · exact ⟨s, t, a, by omega, by omega, b, c⟩
            · rintro ⟨s, u, a', b, c', d'⟩
              by_cases z : u = t
              · subst z; exact Or.inr ⟨s, a', d'⟩
              · exact Or.inl ⟨s, u, a', by omega, c', d'⟩) FU (hi + 1) ((0 : Int32), v, (0 : Int32)) (by unfold FU; omega)
    ⟨0, by omega, rfl, rfl, Bt.zero.cg fun p => ⟨fun h => h.elim, fun ⟨s, u, _, a, _⟩ => absurd a (Nat.not_lt_zero _)⟩, hv.cg fun p => ⟨fun h => ⟨p, rfl, h, fun y hy => absurd hy (Nat.not_lt_zero _)⟩, fun ⟨s, a, b, _⟩ => by rw [a]; exact b⟩⟩
  exact ⟨b, by simp [m_X3_placesBehindItem, f1], f2⟩
