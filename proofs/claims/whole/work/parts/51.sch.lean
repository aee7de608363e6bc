/-! cases of the law: what the class answers against what the reference answers -/
def caseA (f : Option (Int32 × Mem)) (g : Mem → Option (Int32 × Mem)) : Option (Mem ⊕ Unit) :=
  Option.bind f fun r1 => Option.bind (g r1.2) fun r2 => Option.bind (m_X12_thrown 196 r2.2) fun r3 => if r3 = r1.1 then (if r1.1 = 0 then (gd (inb 0 1) (if lg_cmp (r2.2 230 (0 : Int32).toNatClampNeg).toInt64 r2.1.toInt64 = 0 then (some (.inl r2.2)) else (some (.inr ())))) else (some (.inl r2.2))) else (some (.inr ()))
def wrE (hv : Nat → Option Int32) (F : Option ((Int32 ⊕ Nat) × Mem)) : Option (Int32 × Mem) :=
  obx F (fun k I9 => (hv k).map (fun c => (c, I9))) (fun r1 I2 => gd (inb 0 1) (bnd (ms I2 230 (0 : Int32).toNatClampNeg r1) fun I3 => some (0, I3)))
def OKc (e : Option (Mem ⊕ Unit)) : Prop := ∃ I', e = some (.inl I') ∧ Inv I'
theorem lg_refl (x : Int64) : lg_cmp x x = 0 := by
  unfold lg_cmp
  rw [if_neg (show ¬ x > x by show ¬ x < x; rw [Int64.lt_iff_toInt_lt]; omega), if_pos rfl]
theorem opA_ok {hv : Nat → Option Int32} {F : Option ((Int32 ⊕ Nat) × Mem)} {G : Mem → Option (Int32 × Mem)} {v : Int32} {I1 I2 : Mem} (h1 : F = some (.inl v, I1)) (h2 : G (ms I1 230 0 v) = some (v, I2)) (h3 : I2 196 48 = 0) (h4 : I2 230 0 = v) (h5 : Inv I2) : OKc (caseA (wrE hv F) G) := by
  refine ⟨I2, ?_, h5⟩
  have e : wrE hv F = some (0, ms I1 230 0 v) := by rw [h1]; rfl
  rw [e]
  unfold caseA
  simp only [Option.bind_some, h2, m_X12_thrown, h3, if_true, show (0 : Int32).toNatClampNeg = 0 from rfl, h4, lg_refl]
  rfl
theorem opA_ex {hv : Nat → Option Int32} {F : Option ((Int32 ⊕ Nat) × Mem)} {G : Mem → Option (Int32 × Mem)} {v c : Int32} {k : Nat} {I1 I2 : Mem} (h1 : F = some (.inr k, I1)) (hk : hv k = some c) (hc : c ≠ 0) (h2 : G I1 = some (v, I2)) (h3 : I2 196 48 = c) (h5 : Inv I2) : OKc (caseA (wrE hv F) G) := by
  refine ⟨I2, ?_, h5⟩
  have e : wrE hv F = some (c, I1) := by rw [h1]; show (hv k).map _ = _; rw [hk]; rfl
  rw [e]
  unfold caseA
  simp only [Option.bind_some, h2, m_X12_thrown, h3, if_true, if_neg hc]
def up2 (T : Nat → Nat → Nat) (x k v : Nat) : Nat → Nat → Nat := fun a b => if a = x ∧ b = k then v else T a b
theorem io_en : ∀ e, e < 11 → iO (16 + e) 0 = true := by
  have h : ∀ e : Fin 11, iO (16 + e.val) 0 = true := by decide +kernel
  exact fun e he => h ⟨e, he⟩
theorem io_it : ∀ e, e < 10 → iO (6 + e) 2 = true := by
  have h : ∀ e : Fin 10, iO (6 + e.val) 2 = true := by decide +kernel
  exact fun e he => h ⟨e, he⟩
theorem io_5 : iO 5 0 = true := by decide +kernel
theorem io_4 : iO 4 2 = true := by decide +kernel
/-- changed cells are the class's of the schema -/
def ChC (I I' : Mem) : Prop := ∀ a b, ¬ (DSch a b ∧ a < 196) → I' a b = I a b
def ChM (I I' : Mem) : Prop := ∀ a b, ¬ ((DSch a b ∧ 196 ≤ a) ∨ (a = 196 ∧ b = 48)) → I' a b = I a b
def addT (T : Nat → Nat → Nat) (ni ne : Nat) (op : Bool) (t l m : Nat) : Nat → Nat → Nat :=
  let T1 := up2 (up2 (up2 T 0 ni t) 1 ni l) 2 ni m
  if op then up2 T1 5 (ne - 1) (ni + 1) else up2 (up2 (up2 (up2 (up2 T1 3 ne 0) 4 ne ni) 5 ne (ni + 1)) 6 ne (min l 1)) 7 ne 1
theorem x_appendItem {I : Mem} {T : Nat → Nat → Nat} {ni ne t l m : Nat} {op : Bool} (h : SchC I T ni ne op) (hF : SchF T ni ne op) (hn : ni < 10) (ht : t < 65536) (hl : l ≤ 9) :
    ∃ I1, m_X8_appendItem 1 (nI t) (nI l) (nI m) I = some (nI ni, I1) ∧ SchC I1 (addT T ni ne op t l m) (ni + 1) (if op then ne else ne + 1) op ∧ ChC I I1 := by
  obtain ⟨h1, h2, h3, h4, h5⟩ := h
  obtain ⟨f1, f2, f3, f4, f5, f6, f7⟩ := hF
  have e1 : nI ni < 10 := nI_lt (b := 10) hn (by omega)
  have e3' : inb (nI ni) 10 = true := inb_n hn (by omega)
  have e4' : (nI ni).toNatClampNeg = ni := nI_clamp (by omega)
  have hp : okc (nI t) = true := okc_n' ht
  have a1 : ∀ n : Nat, 3 + (13 + n) = 16 + n := fun n => by omega
  have a2 : ∀ n : Nat, 2 + (4 + n) = 6 + n := fun n => by omega
  cases op with
  | false =>
    have hne : ne ≤ ni := by
      rcases Nat.eq_zero_or_pos ne with h0 | h0
      · omega
      · have q := f4 (ne - 1) (by omega)
        have q2 := (f5 h0).2
        have q3 := q.2.2.2.2.2.2.2.2.2.2 (Or.inl rfl)
        omega
    have h3' : I 1 6 = 0 := h3
    have e2 : ¬ 11 ≤ nI ne := nI_ge (b := 11) (by omega) (by omega)
    have e3 : inb (nI ne) 11 = true := inb_n (by omega) (by omega)
    have e4 : (nI ne).toNatClampNeg = ne := nI_clamp (by omega)
    have e5 : ¬ nI ne < 0 := nI_pos (by omega)
    have e6 : nI ne + 1 - 1 = nI ne := by rw [nI_1, nI_pred]
    have e7 : ¬ nI ne + 1 ≤ nI ne := by rw [nI_1]; exact nI_ge (by omega) (by omega)
    have e8 : iO (16 + ne) 0 = true := io_en ne (by omega)
    have e9 : ¬ 1 = 16 + ne := by omega
    have e10 : ¬ 1 = 6 + ni := by omega
    have e11 : nI ni + 1 - 1 = nI ni := by rw [nI_1, nI_pred]
    have e12 : (if (1 : Int32) < nI l then (1 : Int32) else nI l) = nI (min l 1) := by
      by_cases hl1 : 1 < l
      · have := nI_lt hl1 (show l < 2 ^ 31 by omega)
        rw [if_pos (show (1 : Int32) < nI l from this), Nat.min_eq_right (by omega)]
        rfl
      · have := nI_nlt (show l ≤ 1 by omega) (show 1 < 2 ^ 31 by omega)
        rw [if_neg (show ¬ (1 : Int32) < nI l from this), Nat.min_eq_left (by omega)]
    refine ⟨_, by simp [m_X8_appendItem, h1, h3', m_X8_appendEntry, h2, e1, e2, gd_t, bnd, m_X0_begin, okz, e3, e3', e4, e4', ms_app, m_X8_appendItem_j32, m_X8_entryAt, e5, e6, e7, e8, m_X0_extend, m_X2_set, hp, a1, a2, e9, e10, e11, e12]; rfl, ?_, ?_⟩
    · refine ⟨?_, ?_, ?_, fun i hi => ?_, fun e he => ?_⟩
      · simp [ms_app, e9, e10, nI_1]
      · simp [ms_app, e9, e10, nI_1, h2]
      · simp [ms_app, e9, e10, h3]
      · have x1 : ¬ 6 + i = 16 + ne := by omega
        have x2 : ¬ 6 + i = 1 := by omega
        rcases Nat.lt_or_ge i ni with hlt | hge
        · have x3 : ¬ i = ni := by omega
          obtain ⟨q1, q2, q3⟩ := h4 i hlt
          simp [ms_app, addT, up2, x1, x2, x3, q1, q2, q3]
        · have x3 : i = ni := by omega
          subst x3
          simp [ms_app, addT, up2, x2]
      · have x1 : ¬ 16 + e = 6 + ni := by omega
        have x2 : ¬ 16 + e = 1 := by omega
        rcases Nat.lt_or_ge e ne with hlt | hge
        · have x3 : ¬ e = ne := by omega
          obtain ⟨q1, q2, q3, q4, q5⟩ := h5 e hlt
          simp [ms_app, addT, up2, x1, x2, x3, q1, q2, q3, q4, q5]
        · have x3 : e = ne := by simp at he; omega
          subst x3
          simp [ms_app, addT, up2, x1, x2, nI_1]
          decide
    · intro a b hd
      unfold DSch at hd
      simp only [ms_app]
      repeat rw [if_neg (by omega)]
  | true =>
    have hne : 0 < ne := Nat.pos_of_ne_zero fun z => by have := (f6 z).2; cases this
    have h3' : I 1 6 = 1 := h3
    have e5 : ¬ nI ne - 1 < 0 := by
      obtain ⟨k, rfl⟩ : ∃ k, ne = k + 1 := ⟨ne - 1, by omega⟩
      rw [nI_pred]; exact nI_pos (by omega)
    have e6 : nI ne - 1 = nI (ne - 1) := by
      obtain ⟨k, rfl⟩ : ∃ k, ne = k + 1 := ⟨ne - 1, by omega⟩
      rw [nI_pred]; rfl
    rw [e6] at e5
    have e7 : ¬ nI ne ≤ nI (ne - 1) := nI_ge (by omega) (by omega)
    have e3 : inb (nI (ne - 1)) 11 = true := inb_n (by omega) (by omega)
    have e4 : (nI (ne - 1)).toNatClampNeg = ne - 1 := nI_clamp (by omega)
    have e8 : iO (16 + (ne - 1)) 0 = true := io_en (ne - 1) (by omega)
    have e9 : ¬ 1 = 16 + (ne - 1) := by omega
    have e10 : ¬ 1 = 6 + ni := by omega
    have e11 : nI ni + 1 - 1 = nI ni := by rw [nI_1, nI_pred]
    have e13 : I (16 + (ne - 1)) 2 = nI ni := by rw [(h5 (ne - 1) (by omega)).2.2.1, (f5 hne).2]
    refine ⟨_, by simp [m_X8_appendItem, h1, h3', h2, e1, gd_t, bnd, e3, e3', e4, e4', ms_app, m_X8_appendItem_j32, m_X8_entryAt, e5, e6, e7, e8, m_X0_extend, m_X2_set, hp, a1, a2, e9, e10, e11]; rfl, ?_, ?_⟩
    · refine ⟨?_, ?_, ?_, fun i hi => ?_, fun e he => ?_⟩
      · simp [ms_app, e9, e10, nI_1]
      · simp [ms_app, e9, e10, nI_1, h2]
      · simp [ms_app, e9, e10, h3]
      · have x1 : ¬ 6 + i = 16 + (ne - 1) := by omega
        have x2 : ¬ 6 + i = 1 := by omega
        rcases Nat.lt_or_ge i ni with hlt | hge
        · have x3 : ¬ i = ni := by omega
          obtain ⟨q1, q2, q3⟩ := h4 i hlt
          simp [ms_app, addT, up2, x1, x2, x3, q1, q2, q3]
        · have x3 : i = ni := by omega
          subst x3
          simp [ms_app, addT, up2, x2]
      · have he : e < ne := he
        have x1 : ¬ 16 + e = 6 + ni := by omega
        have x2 : ¬ 16 + e = 1 := by omega
        obtain ⟨q1, q2, q3, q4, q5⟩ := h5 e he
        by_cases x3 : e = ne - 1
        · subst x3
          simp [ms_app, addT, up2, x1, x2, q1, q2, e13, q4, q5, nI_1]
        · simp [ms_app, addT, up2, x1, x2, x3, q1, q2, q3, q4, q5]
    · intro a b hd
      unfold DSch at hd
      simp only [ms_app]
      repeat rw [if_neg (by omega)]
theorem x12_appendItem {I : Mem} {T : Nat → Nat → Nat} {ni ne t l m : Nat} {op : Bool} (h : SchM I T ni ne op) (hF : SchF T ni ne op) (hn : ni < 10) (ht : 65 ≤ t ∧ t ≤ 90 ∧ t ≠ 72 ∧ t ≠ 84) (hl : l ≤ 9) (hm : 1 ≤ m ∧ m ≤ 9) (hlm : l ≤ m) :
    ∃ I1, m_X12_addItem 196 (nI t) (nI l) (nI m) I = some (nI ni, I1) ∧ SchM I1 (addT T ni ne op t l m) (ni + 1) (if op then ne else ne + 1) op ∧ ChM I I1 ∧ I1 196 48 = 0 := by
  obtain ⟨h1, h2, h3, h4, h5⟩ := h
  obtain ⟨f1, f2, f3, f4, f5, f6, f7⟩ := hF
  obtain ⟨t1, t2, t3, t4⟩ := ht
  have c1 : ¬ nI t < 65 := nI_nlt (b := 65) t1 (by omega)
  have c2 : ¬ 90 < nI t := nI_nlt (a := 90) (b := t) t2 (by omega)
  have c3 : ¬ nI t = 72 := fun h => t3 ((nI_eq (b := 72) (by omega) (by omega)).mp h)
  have c4 : ¬ nI t = 84 := fun h => t4 ((nI_eq (b := 84) (by omega) (by omega)).mp h)
  have c5 : ¬ nI l < 0 := nI_pos (by omega)
  have c6 : ¬ 9 < nI l := nI_nlt (a := 9) (b := l) hl (by omega)
  have c7 : ¬ nI m < 1 := nI_nlt (b := 1) hm.1 (by omega)
  have c8 : ¬ 9 < nI m := nI_nlt (a := 9) (b := m) hm.2 (by omega)
  have c9 : ¬ nI m < nI l := nI_nlt hlm (by omega)
  have c10 : ¬ nI ni = 10 := fun h => absurd ((nI_eq (b := 10) (by omega) (by omega)).mp h) (by omega)
  have e3' : inb (nI ni) 10 = true := inb_n hn (by omega)
  have e4' : (nI ni).toNatClampNeg = ni := nI_clamp (by omega)
  have hp : okc (nI t) = true := okc_n' (by omega)
  have e11 : nI ni + 1 - 1 = nI ni := by rw [nI_1, nI_pred]
  cases op with
  | false =>
    have hne : ne ≤ ni := by
      rcases Nat.eq_zero_or_pos ne with h0 | h0
      · omega
      · have q := f4 (ne - 1) (by omega)
        have q2 := (f5 h0).2
        have q3 := q.2.2.2.2.2.2.2.2.2.2 (Or.inl rfl)
        omega
    have h3' : I 196 11 = 0 := h3
    have e3 : inb (nI ne) 12 = true := inb_n (by omega) (by omega)
    have e4 : (nI ne).toNatClampNeg = ne := nI_clamp (by omega)
    have e6 : nI ne + 1 - 1 = nI ne := by rw [nI_1, nI_pred]
    refine ⟨_, by simp [m_X12_addItem, m_X12_isTag, m_X12_in, c1, c2, c3, c4, c5, c6, c7, c8, c9, m_X12_addItem_j37, h1, c10, m_X12_addItem_j63, m_X12_isFine, bnd, ms_app, h3', h2, e3, e3', e4, e4', gd_t, okz, m_X12_addItem_j121, hp, e6, e11]; rfl, ?_, ?_, ?_⟩
    · refine ⟨?_, ?_, ?_, fun i hi => ?_, fun e he => ?_⟩
      · simp [ms_app, nI_1]
      · simp [ms_app, nI_1]
      · simp [ms_app, h3]
      · rcases Nat.lt_or_ge i ni with hlt | hge
        · have x3 : ¬ i = ni := by omega
          obtain ⟨q1, q2, q3⟩ := h4 i hlt
          simp [ms_app, addT, up2, x3, q1, q2, q3]
        · have x3 : i = ni := by omega
          subst x3
          simp [ms_app, addT, up2]
      · rcases Nat.lt_or_ge e ne with hlt | hge
        · have x3 : ¬ e = ne := by omega
          obtain ⟨q1, q2, q3, q4, q5, q6⟩ := h5 e hlt
          have k := f4 e hlt
          have x4 : ¬ (T 3 e = 0 ∧ T 4 e = ni) := by
            rintro ⟨z1, z2⟩
            have := (k.2.2.2.2.2.2.2.2.1 z1).1
            omega
          refine ⟨by simp [ms_app, addT, up2, x3, q1], by simp [ms_app, addT, up2, x3, q2], by simp [ms_app, addT, up2, x3, q3], ?_, ?_, ?_⟩
          · by_cases z : T 3 e = 1
            · simp [ms_app, addT, up2, x3, q4, z]
            · have z2 : ¬ T 4 e = ni := fun z2 => x4 ⟨by omega, z2⟩
              simp [ms_app, addT, up2, x3, q4, z, z2]
          · intro z
            have z' : T 3 e = 1 := by simpa [addT, up2, x3] using z
            simp [ms_app, addT, up2, x3, q5 z']
          · intro i z1 z2
            have z1' : T 4 e ≤ i := by simpa [addT, up2, x3] using z1
            have z2' : i < T 5 e := by simpa [addT, up2, x3] using z2
            have x5 : ¬ i = ni := by omega
            simp [ms_app, x5, q6 i z1' z2']
        · have x3 : e = ne := by simp at he; omega
          subst x3
          refine ⟨by simp [ms_app, addT, up2]; decide, by simp [ms_app, addT, up2], by simp [ms_app, addT, up2, nI_pred], by simp [ms_app, addT, up2], fun z => ?_, fun i z1 z2 => ?_⟩
          · simp [addT, up2] at z
          · have : i = ni := by simp [addT, up2] at z1 z2; omega
            subst this
            simp [ms_app]
    · intro a b hd
      unfold DSch at hd
      simp only [ms_app]
      repeat rw [if_neg (by omega)]
    · simp [ms_app]
  | true =>
    have hne : 0 < ne := Nat.pos_of_ne_zero fun z => by have := (f6 z).2; cases this
    have h3' : I 196 11 = 1 := h3
    have e6 : nI ne - 1 = nI (ne - 1) := by
      obtain ⟨k, rfl⟩ : ∃ k, ne = k + 1 := ⟨ne - 1, by omega⟩
      rw [nI_pred]; rfl
    have e3 : inb (nI (ne - 1)) 12 = true := inb_n (by omega) (by omega)
    have e4 : (nI (ne - 1)).toNatClampNeg = ne - 1 := nI_clamp (by omega)
    refine ⟨_, by simp [m_X12_addItem, m_X12_isTag, m_X12_in, c1, c2, c3, c4, c5, c6, c7, c8, c9, m_X12_addItem_j37, h1, c10, m_X12_addItem_j63, m_X12_isFine, bnd, ms_app, h3', h2, e3, e3', e4, e4', gd_t, m_X12_addItem_j121, hp, e6, e11]; rfl, ?_, ?_, ?_⟩
    · refine ⟨?_, ?_, ?_, fun i hi => ?_, fun e he => ?_⟩
      · simp [ms_app, nI_1]
      · simp [ms_app, h2]
      · simp [ms_app, h3]
      · rcases Nat.lt_or_ge i ni with hlt | hge
        · have x3 : ¬ i = ni := by omega
          obtain ⟨q1, q2, q3⟩ := h4 i hlt
          simp [ms_app, addT, up2, x3, q1, q2, q3]
        · have x3 : i = ni := by omega
          subst x3
          simp [ms_app, addT, up2]
      · have he : e < ne := he
        obtain ⟨q1, q2, q3, q4, q5, q6⟩ := h5 e he
        have k := f4 e he
        have x4 : ¬ (T 3 e = 0 ∧ T 4 e = ni) := by
          rintro ⟨z1, z2⟩
          have := (k.2.2.2.2.2.2.2.2.1 z1).1
          omega
        have q4' : ms I 0 0 0 204 e = nI (if T 3 e = 1 then T 6 e else T 1 (T 4 e)) := by simp [ms_app, q4]
        by_cases x3 : e = ne - 1
        · have z0 : T 3 e = 1 := by rw [x3]; exact f7 rfl
          refine ⟨by simp [ms_app, addT, up2, q1], by simp [ms_app, addT, up2, q2], by simp [ms_app, addT, up2, x3, nI_pred], ?_, ?_, ?_⟩
          · simp [ms_app, addT, up2, q4, z0]
          · intro z
            simp [ms_app, addT, up2, q5 z0]
          · intro i z1 z2
            have z1' : T 4 e ≤ i := by simpa [addT, up2] using z1
            have z2' : i < ni + 1 := by simpa [addT, up2, x3] using z2
            by_cases x5 : i = ni
            · simp [ms_app, x5, x3]
            · have := q6 i z1' (by rw [x3, (f5 hne).2]; omega)
              simp [ms_app, x5, this]
        · refine ⟨by simp [ms_app, addT, up2, x3, q1], by simp [ms_app, addT, up2, x3, q2], by simp [ms_app, addT, up2, x3, q3], ?_, ?_, ?_⟩
          · by_cases z : T 3 e = 1
            · simp [ms_app, addT, up2, x3, q4, z]
            · have z2 : ¬ T 4 e = ni := fun z2 => x4 ⟨by omega, z2⟩
              simp [ms_app, addT, up2, x3, q4, z, z2]
          · intro z
            have z' : T 3 e = 1 := by simpa [addT, up2, x3] using z
            simp [ms_app, addT, up2, x3, q5 z']
          · intro i z1 z2
            have z1' : T 4 e ≤ i := by simpa [addT, up2, x3] using z1
            have z2' : i < T 5 e := by simpa [addT, up2, x3] using z2
            have x5 : ¬ i = ni := by omega
            simp [ms_app, x5, q6 i z1' z2']
    · intro a b hd
      unfold DSch at hd
      simp only [ms_app]
      repeat rw [if_neg (by omega)]
    · simp [ms_app]
theorem addT_F {T : Nat → Nat → Nat} {ni ne t l m : Nat} {op : Bool} (hF : SchF T ni ne op) (hn : ni < 10) (ht : 65 ≤ t ∧ t ≤ 90) (hl : l ≤ 9) (hm : 1 ≤ m ∧ m ≤ 9) (hlm : l ≤ m) : SchF (addT T ni ne op t l m) (ni + 1) (if op then ne else ne + 1) op := by
  obtain ⟨f1, f2, f3, f4, f5, f6, f7⟩ := hF
  cases op with
  | false =>
    have hne : ne ≤ ni := by
      rcases Nat.eq_zero_or_pos ne with h0 | h0
      · omega
      · have q := f4 (ne - 1) (by omega)
        have q2 := (f5 h0).2
        have q3 := q.2.2.2.2.2.2.2.2.2.2 (Or.inl rfl)
        omega
    refine ⟨by omega, by simp; omega, fun i hi => ?_, fun e he => ?_, fun h => ?_, fun h => ?_, fun h => nomatch h⟩
    · by_cases x3 : i = ni
      · subst x3
        simp [addT, up2]
        omega
      · have := f3 i (by omega)
        simp [addT, up2, x3]
        omega
    · have he : e < ne + 1 := he
      by_cases x3 : e = ne
      · subst x3
        simp [addT, up2]
        omega
      · have k := f4 e (by omega)
        have v3 : addT T ni ne false t l m 3 e = T 3 e := by simp [addT, up2, x3]
        have v4 : addT T ni ne false t l m 4 e = T 4 e := by simp [addT, up2, x3]
        have v5 : addT T ni ne false t l m 5 e = T 5 e := by simp [addT, up2, x3]
        have v6 : addT T ni ne false t l m 6 e = T 6 e := by simp [addT, up2, x3]
        have v7 : addT T ni ne false t l m 7 e = T 7 e := by simp [addT, up2, x3]
        have v1 : T 3 e = 0 → addT T ni ne false t l m 1 (T 4 e) = T 1 (T 4 e) := fun z => by
          have := (k.2.2.2.2.2.2.2.2.1 z).1
          simp [addT, up2, show ¬ T 4 e = ni by omega]
        have v8 : addT T ni ne false t l m 4 (e + 1) = T 5 e := by
          by_cases x4 : e + 1 = ne
          · have := f5 (by omega)
            simp [addT, up2, x4]
            rw [← this.2, ← x4]
            rfl
          · have := k.2.2.2.2.2.2.2.2.2.1 (by omega)
            simp [addT, up2, x4, this]
        rw [v3, v4, v5, v6, v7]
        refine ⟨k.1, k.2.1, by omega, k.2.2.2.1, k.2.2.2.2.1, k.2.2.2.2.2.1, k.2.2.2.2.2.2.1, k.2.2.2.2.2.2.2.1, fun z => ?_, fun _ => v8, fun _ => k.2.2.2.2.2.2.2.2.2.2 (Or.inl rfl)⟩
        rw [v1 z]
        exact k.2.2.2.2.2.2.2.2.1 z
    · by_cases x3 : ne = 0
      · subst x3
        have := f6 rfl
        simp [addT, up2]
        omega
      · have := (f5 (by omega)).1
        simp [addT, up2, Ne.symm x3, this]
    · simp at h
  | true =>
    have hne : 0 < ne := Nat.pos_of_ne_zero fun z => by have := (f6 z).2; cases this
    refine ⟨by omega, by simp; omega, fun i hi => ?_, fun e he => ?_, fun h => ?_, fun h => ?_, fun _ => ?_⟩
    · by_cases x3 : i = ni
      · subst x3
        simp [addT, up2]
        omega
      · have := f3 i (by omega)
        simp [addT, up2, x3]
        omega
    · have he : e < ne := he
      have k := f4 e he
      have v3 : addT T ni ne true t l m 3 e = T 3 e := by simp [addT, up2]
      have v4 : addT T ni ne true t l m 4 e = T 4 e := by simp [addT, up2]
      have v6 : addT T ni ne true t l m 6 e = T 6 e := by simp [addT, up2]
      have v7 : addT T ni ne true t l m 7 e = T 7 e := by simp [addT, up2]
      have v8 : addT T ni ne true t l m 4 (e + 1) = T 4 (e + 1) := by simp [addT, up2]
      have v5 : addT T ni ne true t l m 5 e = if e = ne - 1 then ni + 1 else T 5 e := by simp [addT, up2]
      have v1 : T 3 e = 0 → addT T ni ne true t l m 1 (T 4 e) = T 1 (T 4 e) := fun z => by
        have := (k.2.2.2.2.2.2.2.2.1 z).1
        simp [addT, up2, show ¬ T 4 e = ni by omega]
      rw [v3, v4, v5, v6, v7, v8]
      have hl5 := (f5 hne).2
      by_cases x3 : e = ne - 1
      · have z0 : T 3 e = 1 := by rw [x3]; exact f7 rfl
        rw [if_pos x3]
        have h5e : T 5 e = ni := by rw [x3]; exact hl5
        refine ⟨k.1, by omega, by omega, k.2.2.2.1, k.2.2.2.2.1, k.2.2.2.2.2.1, k.2.2.2.2.2.2.1, k.2.2.2.2.2.2.2.1, fun z => by omega, fun z => by simp at z; omega, fun _ => by omega⟩
      · rw [if_neg x3]
        refine ⟨k.1, k.2.1, by omega, k.2.2.2.1, k.2.2.2.2.1, k.2.2.2.2.2.1, k.2.2.2.2.2.2.1, k.2.2.2.2.2.2.2.1, fun z => ?_, fun z => k.2.2.2.2.2.2.2.2.2.1 z, fun z => k.2.2.2.2.2.2.2.2.2.2 (Or.inr (by omega))⟩
        rw [v1 z]
        exact k.2.2.2.2.2.2.2.2.1 z
    · have := f5 hne
      simp [addT, up2]
      exact this.1
    · simp at h
      omega
    · have := f7 rfl
      simp [addT, up2]
      exact this
/-- one component changed: the rest stays -/
theorem Inv.schC {I I' : Mem} (h : Inv I) (hc : ChC I I') : Non I' ∧ Txt I' ∧ Flt I' ∧ Ctl I' ∧ Acc I' ∧ Rul I' ∧ Out I' := by
  obtain ⟨_, h2, h3, h4, h5, h6, h7, h8⟩ := h
  unfold ChC DSch at hc
  exact ⟨h2.congr fun a b hd => hc a b (by unfold DNon at hd; omega), h3.congr fun a b hd => hc a b (by unfold DTxt at hd; omega), h4.congr fun a b hd => hc a b (by unfold DFlt at hd; omega), h5.congr fun a b hd => hc a b (by unfold DCtl at hd; omega), h6.congr fun a b hd => hc a b (by unfold DAcc' at hd; omega), h7.congr fun a b hd => hc a b (by unfold DRul at hd; omega), h8.congr fun a b hd => hc a b (by unfold DOut' at hd; omega)⟩
def ChS (I I' : Mem) : Prop := ∀ a b, ¬ (DSch a b ∨ (a = 196 ∧ b = 48) ∨ a = 230) → I' a b = I a b
theorem Inv.sch {I I' : Mem} (h : Inv I) (hc : ChS I I') (hs : Sch I') : Inv I' := by
  obtain ⟨_, h2, h3, h4, h5, h6, h7, h8⟩ := h
  unfold ChS DSch at hc
  exact ⟨hs, h2.congr fun a b hd => hc a b (by unfold DNon at hd; omega), h3.congr fun a b hd => hc a b (by unfold DTxt at hd; omega), h4.congr fun a b hd => hc a b (by unfold DFlt at hd; omega), h5.congr fun a b hd => hc a b (by unfold DCtl at hd; omega), h6.congr fun a b hd => hc a b (by unfold DAcc' at hd; omega), h7.congr fun a b hd => hc a b (by unfold DRul at hd; omega), h8.congr fun a b hd => hc a b (by unfold DOut' at hd; omega)⟩
theorem ChC.to {I I' : Mem} (h : ChC I I') : ∀ a b, 196 ≤ a → I' a b = I a b := fun a b ha => h a b (fun q => by omega)
theorem SchM.congr2 {I I' : Mem} {T : Nat → Nat → Nat} {ni ne : Nat} {op : Bool} (h : SchM I T ni ne op) (hc : ∀ a b, 196 ≤ a → a < 206 → I' a b = I a b) : SchM I' T ni ne op := by
  obtain ⟨h1, h2, h3, h4, h5⟩ := h
  refine ⟨?_, ?_, ?_, fun i hi => ?_, fun e h9 => ?_⟩
  · rw [hc _ _ (by omega) (by omega), h1]
  · rw [hc _ _ (by omega) (by omega), h2]
  · rw [hc _ _ (by omega) (by omega), h3]
  · obtain ⟨a1, a2, a3⟩ := h4 i hi
    exact ⟨by rw [hc _ _ (by omega) (by omega), a1], by rw [hc _ _ (by omega) (by omega), a2], by rw [hc _ _ (by omega) (by omega), a3]⟩
  · obtain ⟨a1, a2, a3, a4, a5, a6⟩ := h5 e h9
    exact ⟨by rw [hc _ _ (by omega) (by omega), a1], by rw [hc _ _ (by omega) (by omega), a2], by rw [hc _ _ (by omega) (by omega), a3], by rw [hc _ _ (by omega) (by omega), a4], fun z => by rw [hc _ _ (by omega) (by omega), a5 z], fun i z1 z2 => by rw [hc _ _ (by omega) (by omega), a6 i z1 z2]⟩
theorem SchC.congr2 {I I' : Mem} {T : Nat → Nat → Nat} {ni ne : Nat} {op : Bool} (h : SchC I T ni ne op) (hn : ni ≤ 10) (he : ne ≤ 11) (hc : ∀ a b, DSch a b → a < 196 → I' a b = I a b) : SchC I' T ni ne op := by
  obtain ⟨h1, h2, h3, h4, h5⟩ := h
  unfold DSch at hc
  refine ⟨?_, ?_, ?_, fun i hi => ?_, fun e h9 => ?_⟩
  · rw [hc _ _ (by omega) (by omega), h1]
  · rw [hc _ _ (by omega) (by omega), h2]
  · rw [hc _ _ (by omega) (by omega), h3]
  · obtain ⟨a1, a2, a3⟩ := h4 i hi
    exact ⟨by rw [hc _ _ (by omega) (by omega), a1], by rw [hc _ _ (by omega) (by omega), a2], by rw [hc _ _ (by omega) (by omega), a3]⟩
  · obtain ⟨a1, a2, a3, a4, a5⟩ := h5 e h9
    exact ⟨by rw [hc _ _ (by omega) (by omega), a1], by rw [hc _ _ (by omega) (by omega), a2], by rw [hc _ _ (by omega) (by omega), a3], by rw [hc _ _ (by omega) (by omega), a4], by rw [hc _ _ (by omega) (by omega), a5]⟩
/-- of a letter: its number -/
theorem letter_n (x : Int32) : ∃ t, t < 65536 ∧ (x.toUInt32 % 65536).toInt32 = nI t := ⟨_, Nat.mod_lt _ (by omega), pk_char x⟩
theorem op_addItem {I : Mem} (hI : Inv I) (t : Nat) (ht : t < 65536) (p2 p3 : Int32) : OKc (caseA (wrE hv_addItem (m_X11_addItem 0 (nI t) p2 p3 I)) (fun I => m_X12_addItem 196 (nI t) p2 p3 I)) := by
  obtain ⟨T, ni, ne, op, hC, hM, hF⟩ := hI.1
  have bad1 : (m_X11_addItem 0 (nI t) p2 p3 I = some (.inr 0, I)) → (m_X12_addItem 196 (nI t) p2 p3 I = some (0, ms I 196 48 1)) → OKc (caseA (wrE hv_addItem (m_X11_addItem 0 (nI t) p2 p3 I)) (fun I => m_X12_addItem 196 (nI t) p2 p3 I)) :=
    fun h1 h2 => opA_ex (c := 1) h1 rfl (by decide) h2 (ms_s rfl rfl) hI.thr
  by_cases c1 : nI t < 65
  · exact bad1 (by simp [m_X11_addItem, m_X11_isBodyTag, m_X11_isTag, c1, m_X11_addItem_j15]) (by simp [m_X12_addItem, m_X12_isTag, m_X12_in, c1, m_X12_addItem_j36, m_X12_addItem_j37, m_X12_addItem_j63, m_X12_isFine, bnd])
  by_cases c2 : 90 < nI t
  · exact bad1 (by simp [m_X11_addItem, m_X11_isBodyTag, m_X11_isTag, c1, c2, m_X11_addItem_j15]) (by simp [m_X12_addItem, m_X12_isTag, m_X12_in, c1, c2, m_X12_addItem_j36, m_X12_addItem_j37, m_X12_addItem_j63, m_X12_isFine, bnd])
  by_cases c3 : nI t = 72
  · exact bad1 (by simp [m_X11_addItem, m_X11_isBodyTag, m_X11_isTag, c3, m_X11_addItem_j15]) (by simp [m_X12_addItem, m_X12_isTag, m_X12_in, c3, m_X12_addItem_j36, m_X12_addItem_j37, m_X12_addItem_j63, m_X12_isFine, bnd])
  by_cases c4 : nI t = 84
  · exact bad1 (by simp [m_X11_addItem, m_X11_isBodyTag, m_X11_isTag, c4, m_X11_addItem_j15]) (by simp [m_X12_addItem, m_X12_isTag, m_X12_in, c4, m_X12_addItem_j36, m_X12_addItem_j37, m_X12_addItem_j63, m_X12_isFine, bnd])
  by_cases c5 : p2 < 0
  · exact bad1 (by simp [m_X11_addItem, m_X11_isBodyTag, m_X11_isTag, m_X11_areTimes, m_X11_addItem_j15, c1, c2, c3, c4, c5]) (by simp [m_X12_addItem, m_X12_isTag, m_X12_in, m_X12_addItem_j36, m_X12_addItem_j37, m_X12_addItem_j63, m_X12_isFine, bnd, c1, c2, c3, c4, c5])
  by_cases c6 : 9 < p2
  · exact bad1 (by simp [m_X11_addItem, m_X11_isBodyTag, m_X11_isTag, m_X11_areTimes, m_X11_addItem_j15, c1, c2, c3, c4, c5, c6]) (by simp [m_X12_addItem, m_X12_isTag, m_X12_in, m_X12_addItem_j36, m_X12_addItem_j37, m_X12_addItem_j63, m_X12_isFine, bnd, c1, c2, c3, c4, c5, c6])
  by_cases c7 : p3 < 1
  · exact bad1 (by simp [m_X11_addItem, m_X11_isBodyTag, m_X11_isTag, m_X11_areTimes, m_X11_addItem_j15, c1, c2, c3, c4, c5, c6, c7]) (by simp [m_X12_addItem, m_X12_isTag, m_X12_in, m_X12_addItem_j36, m_X12_addItem_j37, m_X12_addItem_j63, m_X12_isFine, bnd, c1, c2, c3, c4, c5, c6, c7])
  by_cases c8 : 9 < p3
  · exact bad1 (by simp [m_X11_addItem, m_X11_isBodyTag, m_X11_isTag, m_X11_areTimes, m_X11_addItem_j15, c1, c2, c3, c4, c5, c6, c7, c8]) (by simp [m_X12_addItem, m_X12_isTag, m_X12_in, m_X12_addItem_j36, m_X12_addItem_j37, m_X12_addItem_j63, m_X12_isFine, bnd, c1, c2, c3, c4, c5, c6, c7, c8])
  by_cases c9 : p3 < p2
  · exact bad1 (by simp [m_X11_addItem, m_X11_isBodyTag, m_X11_isTag, m_X11_areTimes, m_X11_addItem_j15, c1, c2, c3, c4, c5, c6, c7, c8, c9]) (by simp [m_X12_addItem, m_X12_isTag, m_X12_in, m_X12_addItem_j36, m_X12_addItem_j37, m_X12_addItem_j63, m_X12_isFine, bnd, c1, c2, c3, c4, c5, c6, c7, c8, c9])
  obtain ⟨l, l1, l2, rfl⟩ := rng (a := 0) (b := 9) rfl rfl (by omega) c5 c6 (by omega)
  obtain ⟨m, m1, m2, rfl⟩ := rng (a := 1) (b := 9) rfl rfl (by omega) c7 c8 (by omega)
  have hlm : l ≤ m := Nat.not_lt.mp fun h => c9 (nI_lt h (by omega))
  have t1 : 65 ≤ t := Nat.not_lt.mp fun h => c1 (nI_lt (b := 65) h (by omega))
  have t2 : t ≤ 90 := Nat.not_lt.mp fun h => c2 (nI_lt (a := 90) h (by omega))
  have t3 : t ≠ 72 := fun h => c3 (by rw [h]; rfl)
  have t4 : t ≠ 84 := fun h => c4 (by rw [h]; rfl)
  have hn10 := hF.1
  by_cases hn : ni = 10
  · subst hn
    have g1 : ¬ I 1 4 < 10 := by rw [hC.1]; decide
    have g2 : I 196 4 = 10 := by rw [hM.1]; decide
    refine opA_ex (c := 2) (k := 1) (I1 := I) (I2 := ms I 196 48 2) (v := 0) (by simp [m_X11_addItem, m_X11_isBodyTag, m_X11_isTag, m_X11_areTimes, m_X11_addItem_j15, c1, c2, c3, c4, c5, c6, c7, c8, c9, m_X8_itemCount, g1]) rfl (by decide) (by simp [m_X12_addItem, m_X12_isTag, m_X12_in, m_X12_addItem_j36, m_X12_addItem_j37, m_X12_addItem_j63, m_X12_isFine, bnd, c1, c2, c3, c4, c5, c6, c7, c8, c9, g2]) (ms_s rfl rfl) hI.thr
  · have g1 : I 1 4 < 10 := by rw [hC.1]; exact nI_lt (b := 10) (by omega) (by omega)
    obtain ⟨I1, e1, e2, e3⟩ := x_appendItem (t := t) (l := l) (m := m) hC hF (by omega) (by omega) l2
    have hM1 : SchM (ms I1 230 0 (nI ni)) T ni ne op := hM.congr2 fun a b h1 h2 => by rw [ms_o (by omega), e3.to a b h1]
    obtain ⟨I2, d1, d2, d3, d4⟩ := x12_appendItem (t := t) (l := l) (m := m) hM1 hF (by omega) ⟨t1, t2, t3, t4⟩ l2 ⟨m1, m2⟩ hlm
    have hF' := addT_F (t := t) (l := l) (m := m) hF (by omega) ⟨t1, t2⟩ l2 ⟨m1, m2⟩ hlm
    refine opA_ok (v := nI ni) (I1 := I1) (I2 := I2) (by simp [m_X11_addItem, m_X11_isBodyTag, m_X11_isTag, m_X11_areTimes, m_X11_addItem_j15, c1, c2, c3, c4, c5, c6, c7, c8, c9, m_X8_itemCount, g1, e1]) d1 d4 ?_ (hI.sch (fun a b hd => ?_) ⟨_, _, _, _, e2.congr2 hF'.1 hF'.2.1 fun a b h1 h2 => ?_, d2, hF'⟩)
    · rw [d3 _ _ (by unfold DSch; omega), ms_s rfl rfl]
    · rw [d3 a b (by unfold DSch at *; omega), ms_o (by unfold DSch at *; omega), e3 a b (by unfold DSch at *; omega)]
    · rw [d3 a b (by unfold DSch at *; omega), ms_o (by unfold DSch at *; omega)]
