def up2 (T : Nat → Nat → Nat) (x k v : Nat) : Nat → Nat → Nat := fun a b => if a = x ∧ b = k then v else T a b
theorem io_en : ∀ e, e < 11 → iO (16 + e) 0 = true := by
  have h : ∀ e : Fin 11, iO (16 + e.val) 0 = true := by decide +kernel
  exact fun e he => h ⟨e, he⟩
theorem io_it : ∀ e, e < 10 → iO (6 + e) 2 = true := by
  have h : ∀ e : Fin 10, iO (6 + e.val) 2 = true := by decide +kernel
  exact fun e he => h ⟨e, he⟩
def ChC (I I' : Mem) : Prop := ∀ a b, ¬ (DSch a b ∧ a < 196) → I' a b = I a b
def addT (T : Nat → Nat → Nat) (ni ne : Nat) (op : Bool) (t l m : Nat) : Nat → Nat → Nat :=
  let T1 := up2 (up2 (up2 T 0 ni t) 1 ni l) 2 ni m
  if op then up2 T1 5 (ne - 1) (ni + 1) else up2 (up2 (up2 (up2 (up2 T1 3 ne 0) 4 ne ni) 5 ne (ni + 1)) 6 ne (min l 1)) 7 ne 1
theorem x_appendItem {I : Mem} {T : Nat → Nat → Nat} {ni ne t l m : Nat} {op : Bool} (h : SchC I T ni ne op) (hF : SchF T ni ne op) (hn : ni < 10) (ht : t < 65536) (hl : l ≤ 9) :
    ∃ I1, m_X8_appendItem 1 (nI t) (nI l) (nI m) I = some (nI ni, I1) ∧ SchC I1 (addT T ni ne op t l m) (ni + 1) (if op then ne else ne + 1) op ∧ ChC I I1 := by
  obtain ⟨h1, h2, h3, h4, h5⟩ := h
  obtain ⟨f1, f2, f3, f4, f5, f6, f7⟩ := hF
  have e1 : nI ni < 10 := nI_lt (b := 10) hn (by omega)
  have e3' : inb (nI ni) 10 = true := inb_n hn (by omega)
  have e4' : (nI ni).toNatClampNeg = ni := nI_clamp (by omega)
  have hp : okc (nI t) = true := okc_n' ht
  have a1 : ∀ n : Nat, 3 + (13 + n) = 16 + n := fun n => by omega
  have a2 : ∀ n : Nat, 2 + (4 + n) = 6 + n := fun n => by omega
  cases op with
  | false =>
    have hne : ne ≤ ni := by
      rcases Nat.eq_zero_or_pos ne with h0 | h0
      · omega
      · have q := f4 (ne - 1) (by omega)
        have q2 := (f5 h0).2
        have q3 := q.2.2.2.2.2.2.2.2.2.2 (Or.inl rfl)
        omega
    have h3' : I 1 6 = 0 := h3
    have e2 : ¬ 11 ≤ nI ne := nI_ge (b := 11) (by omega) (by omega)
    have e3 : inb (nI ne) 11 = true := inb_n (by omega) (by omega)
    have e4 : (nI ne).toNatClampNeg = ne := nI_clamp (by omega)
    have e5 : ¬ nI ne < 0 := nI_pos (by omega)
    have e6 : nI ne + 1 - 1 = nI ne := by rw [nI_1, nI_pred]
    have e7 : ¬ nI ne + 1 ≤ nI ne := by rw [nI_1]; exact nI_ge (by omega) (by omega)
    have e8 : iO (16 + ne) 0 = true := io_en ne (by omega)
    have e9 : ¬ 1 = 16 + ne := by omega
    have e10 : ¬ 1 = 6 + ni := by omega
    have e11 : nI ni + 1 - 1 = nI ni := by rw [nI_1, nI_pred]
    have e12 : (if (1 : Int32) < nI l then (1 : Int32) else nI l) = nI (min l 1) := by
      by_cases hl1 : 1 < l
      · have := nI_lt hl1 (show l < 2 ^ 31 by omega)
        rw [if_pos (show (1 : Int32) < nI l from this), Nat.min_eq_right (by omega)]
        rfl
      · have := nI_nlt (show l ≤ 1 by omega) (show 1 < 2 ^ 31 by omega)
        rw [if_neg (show ¬ (1 : Int32) < nI l from this), Nat.min_eq_left (by omega)]
    refine ⟨_, by simp [m_X8_appendItem, h1, h3', m_X8_appendEntry, h2, e1, e2, gd_t, bnd, m_X0_begin, okz, e3, e3', e4, e4', ms_app, m_X8_appendItem_j32, m_X8_entryAt, e5, e6, e7, e8, m_X0_extend, m_X2_set, hp, a1, a2, e9, e10, e11, e12]; rfl, ?_, ?_⟩
    · refine ⟨?_, ?_, ?_, fun i hi => ?_, fun e he => ?_⟩
      · simp [ms_app, e9, e10, nI_1]
      · simp [ms_app, e9, e10, nI_1, h2]
      · simp [ms_app, e9, e10, h3]
      · have x1 : ¬ 6 + i = 16 + ne := by omega
        have x2 : ¬ 6 + i = 1 := by omega
        rcases Nat.lt_or_ge i ni with hlt | hge
        · have x3 : ¬ i = ni := by omega
          obtain ⟨q1, q2, q3⟩ := h4 i hlt
          simp [ms_app, addT, up2, x1, x2, x3, q1, q2, q3]
        · have x3 : i = ni := by omega
          subst x3
          simp [ms_app, addT, up2, x2]
      · have x1 : ¬ 16 + e = 6 + ni := by omega
        have x2 : ¬ 16 + e = 1 := by omega
        rcases Nat.lt_or_ge e ne with hlt | hge
        · have x3 : ¬ e = ne := by omega
          obtain ⟨q1, q2, q3, q4, q5⟩ := h5 e hlt
          simp [ms_app, addT, up2, x1, x2, x3, q1, q2, q3, q4, q5]
        · have x3 : e = ne := by simp at he; omega
          subst x3
          simp [ms_app, addT, up2, x1, x2, nI_1]
          decide
    · intro a b hd
      unfold DSch at hd
      simp only [ms_app]
      repeat rw [if_neg (by omega)]
  | true =>
    have hne : 0 < ne := Nat.pos_of_ne_zero fun z => by have := (f6 z).2; cases this
    have h3' : I 1 6 = 1 := h3
    have e5 : ¬ nI ne - 1 < 0 := by
      obtain ⟨k, rfl⟩ : ∃ k, ne = k + 1 := ⟨ne - 1, by omega⟩
      rw [nI_pred]; exact nI_pos (by omega)
    have e6 : nI ne - 1 = nI (ne - 1) := by
      obtain ⟨k, rfl⟩ : ∃ k, ne = k + 1 := ⟨ne - 1, by omega⟩
      rw [nI_pred]; rfl
    rw [e6] at e5
    have e7 : ¬ nI ne ≤ nI (ne - 1) := nI_ge (by omega) (by omega)
    have e3 : inb (nI (ne - 1)) 11 = true := inb_n (by omega) (by omega)
    have e4 : (nI (ne - 1)).toNatClampNeg = ne - 1 := nI_clamp (by omega)
    have e8 : iO (16 + (ne - 1)) 0 = true := io_en (ne - 1) (by omega)
    have e9 : ¬ 1 = 16 + (ne - 1) := by omega
    have e10 : ¬ 1 = 6 + ni := by omega
    have e11 : nI ni + 1 - 1 = nI ni := by rw [nI_1, nI_pred]
    have e13 : I (16 + (ne - 1)) 2 = nI ni := by rw [(h5 (ne - 1) (by omega)).2.2.1, (f5 hne).2]
    refine ⟨_, by simp [m_X8_appendItem, h1, h3', h2, e1, gd_t, bnd, e3, e3', e4, e4', ms_app, m_X8_appendItem_j32, m_X8_entryAt, e5, e6, e7, e8, m_X0_extend, m_X2_set, hp, a1, a2, e9, e10, e11]; rfl, ?_, ?_⟩
    · refine ⟨?_, ?_, ?_, fun i hi => ?_, fun e he => ?_⟩
      · simp [ms_app, e9, e10, nI_1]
      · simp [ms_app, e9, e10, nI_1, h2]
      · simp [ms_app, e9, e10, h3]
      · have x1 : ¬ 6 + i = 16 + (ne - 1) := by omega
        have x2 : ¬ 6 + i = 1 := by omega
        rcases Nat.lt_or_ge i ni with hlt | hge
        · have x3 : ¬ i = ni := by omega
          obtain ⟨q1, q2, q3⟩ := h4 i hlt
          simp [ms_app, addT, up2, x1, x2, x3, q1, q2, q3]
        · have x3 : i = ni := by omega
          subst x3
          simp [ms_app, addT, up2, x2]
      · have he : e < ne := he
        have x1 : ¬ 16 + e = 6 + ni := by omega
        have x2 : ¬ 16 + e = 1 := by omega
        obtain ⟨q1, q2, q3, q4, q5⟩ := h5 e he
        by_cases x3 : e = ne - 1
        · subst x3
          simp [ms_app, addT, up2, x1, x2, q1, q2, e13, q4, q5, nI_1]
        · simp [ms_app, addT, up2, x1, x2, x3, q1, q2, q3, q4, q5]
    · intro a b hd
      unfold DSch at hd
      simp only [ms_app]
      repeat rw [if_neg (by omega)]
theorem addT_F {T : Nat → Nat → Nat} {ni ne t l m : Nat} {op : Bool} (hF : SchF T ni ne op) (hn : ni < 10) (ht : 65 ≤ t ∧ t ≤ 90) (hl : l ≤ 9) (hm : 1 ≤ m ∧ m ≤ 9) (hlm : l ≤ m) : SchF (addT T ni ne op t l m) (ni + 1) (if op then ne else ne + 1) op := by
  obtain ⟨f1, f2, f3, f4, f5, f6, f7⟩ := hF
  cases op with
  | false =>
    have hne : ne ≤ ni := by
      rcases Nat.eq_zero_or_pos ne with h0 | h0
      · omega
      · have q := f4 (ne - 1) (by omega)
        have q2 := (f5 h0).2
        have q3 := q.2.2.2.2.2.2.2.2.2.2 (Or.inl rfl)
        omega
    refine ⟨by omega, by simp; omega, fun i hi => ?_, fun e he => ?_, fun h => ?_, fun h => ?_, fun h => nomatch h⟩
    · by_cases x3 : i = ni
      · subst x3
        simp [addT, up2]
        omega
      · have := f3 i (by omega)
        simp [addT, up2, x3]
        omega
    · have he : e < ne + 1 := he
      by_cases x3 : e = ne
      · subst x3
        simp [addT, up2]
        omega
      · have k := f4 e (by omega)
        have v3 : addT T ni ne false t l m 3 e = T 3 e := by simp [addT, up2, x3]
        have v4 : addT T ni ne false t l m 4 e = T 4 e := by simp [addT, up2, x3]
        have v5 : addT T ni ne false t l m 5 e = T 5 e := by simp [addT, up2, x3]
        have v6 : addT T ni ne false t l m 6 e = T 6 e := by simp [addT, up2, x3]
        have v7 : addT T ni ne false t l m 7 e = T 7 e := by simp [addT, up2, x3]
        have v1 : T 3 e = 0 → addT T ni ne false t l m 1 (T 4 e) = T 1 (T 4 e) := fun z => by
          have := (k.2.2.2.2.2.2.2.2.1 z).1
          simp [addT, up2, show ¬ T 4 e = ni by omega]
        have v8 : addT T ni ne false t l m 4 (e + 1) = T 5 e := by
          by_cases x4 : e + 1 = ne
          · have := f5 (by omega)
            simp [addT, up2, x4]
            rw [← this.2, ← x4]
            rfl
          · have := k.2.2.2.2.2.2.2.2.2.1 (by omega)
            simp [addT, up2, x4, this]
        rw [v3, v4, v5, v6, v7]
        refine ⟨k.1, k.2.1, by omega, k.2.2.2.1, k.2.2.2.2.1, k.2.2.2.2.2.1, k.2.2.2.2.2.2.1, k.2.2.2.2.2.2.2.1, fun z => ?_, fun _ => v8, fun _ => k.2.2.2.2.2.2.2.2.2.2 (Or.inl rfl)⟩
        rw [v1 z]
        exact k.2.2.2.2.2.2.2.2.1 z
    · by_cases x3 : ne = 0
      · subst x3
        have := f6 rfl
        simp [addT, up2]
        omega
      · have := (f5 (by omega)).1
        simp [addT, up2, Ne.symm x3, this]
    · simp at h
  | true =>
    have hne : 0 < ne := Nat.pos_of_ne_zero fun z => by have := (f6 z).2; cases this
    refine ⟨by omega, by simp; omega, fun i hi => ?_, fun e he => ?_, fun h => ?_, fun h => ?_, fun _ => ?_⟩
    · by_cases x3 : i = ni
      · subst x3
        simp [addT, up2]
        omega
      · have := f3 i (by omega)
        simp [addT, up2, x3]
        omega
    · have he : e < ne := he
      have k := f4 e he
      have v3 : addT T ni ne true t l m 3 e = T 3 e := by simp [addT, up2]
      have v4 : addT T ni ne true t l m 4 e = T 4 e := by simp [addT, up2]
      have v6 : addT T ni ne true t l m 6 e = T 6 e := by simp [addT, up2]
      have v7 : addT T ni ne true t l m 7 e = T 7 e := by simp [addT, up2]
      have v8 : addT T ni ne true t l m 4 (e + 1) = T 4 (e + 1) := by simp [addT, up2]
      have v5 : addT T ni ne true t l m 5 e = if e = ne - 1 then ni + 1 else T 5 e := by simp [addT, up2]
      have v1 : T 3 e = 0 → addT T ni ne true t l m 1 (T 4 e) = T 1 (T 4 e) := fun z => by
        have := (k.2.2.2.2.2.2.2.2.1 z).1
        simp [addT, up2, show ¬ T 4 e = ni by omega]
      rw [v3, v4, v5, v6, v7, v8]
      have hl5 := (f5 hne).2
      by_cases x3 : e = ne - 1
      · have z0 : T 3 e = 1 := by rw [x3]; exact f7 rfl
        rw [if_pos x3]
        have h5e : T 5 e = ni := by rw [x3]; exact hl5
        refine ⟨k.1, by omega, by omega, k.2.2.2.1, k.2.2.2.2.1, k.2.2.2.2.2.1, k.2.2.2.2.2.2.1, k.2.2.2.2.2.2.2.1, fun z => by omega, fun z => by simp at z; omega, fun _ => by omega⟩
      · rw [if_neg x3]
        refine ⟨k.1, k.2.1, by omega, k.2.2.2.1, k.2.2.2.2.1, k.2.2.2.2.2.1, k.2.2.2.2.2.2.1, k.2.2.2.2.2.2.2.1, fun z => ?_, fun z => k.2.2.2.2.2.2.2.2.2.1 z, fun z => k.2.2.2.2.2.2.2.2.2.2 (Or.inr (by omega))⟩
        rw [v1 z]
        exact k.2.2.2.2.2.2.2.2.1 z
    · have := f5 hne
      simp [addT, up2]
      exact this.1
    · simp at h
      omega
    · have := f7 rfl
      simp [addT, up2]
      exact this
theorem SchC.congr2 {I I' : Mem} {T : Nat → Nat → Nat} {ni ne : Nat} {op : Bool} (h : SchC I T ni ne op) (hn : ni ≤ 10) (he : ne ≤ 11) (hc : ∀ a b, DSch a b → a < 196 → I' a b = I a b) : SchC I' T ni ne op := by
  obtain ⟨h1, h2, h3, h4, h5⟩ := h
  unfold DSch at hc
  refine ⟨?_, ?_, ?_, fun i hi => ?_, fun e h9 => ?_⟩
  · rw [hc _ _ (by omega) (by omega), h1]
  · rw [hc _ _ (by omega) (by omega), h2]
  · rw [hc _ _ (by omega) (by omega), h3]
  · obtain ⟨a1, a2, a3⟩ := h4 i hi
    exact ⟨by rw [hc _ _ (by omega) (by omega), a1], by rw [hc _ _ (by omega) (by omega), a2], by rw [hc _ _ (by omega) (by omega), a3]⟩
  · obtain ⟨a1, a2, a3, a4, a5⟩ := h5 e h9
    exact ⟨by rw [hc _ _ (by omega) (by omega), a1], by rw [hc _ _ (by omega) (by omega), a2], by rw [hc _ _ (by omega) (by omega), a3], by rw [hc _ _ (by omega) (by omega), a4], by rw [hc _ _ (by omega) (by omega), a5]⟩
