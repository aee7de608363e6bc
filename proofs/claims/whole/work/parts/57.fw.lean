theorem putAll_ok {I : Mem} {m wl tl : Nat} {f : Nat → Nat} (hm : m = 192 ∨ m = 194) (hw : wl ≤ 300) (h1 : I m 1 = nI wl) (h2 : ∀ i, i < wl → f i < 65536 ∧ I (m + 1) i = nI (f i)) (h3 : I 27 1 = nI tl) (h4 : tl + wl ≤ 300) :
    ∃ J, m_X10_putAll 27 m I = some J ∧ J 27 1 = nI (tl + wl) ∧ (∀ i, i < wl → J 28 (tl + i) = nI (f i)) ∧ (∀ i, i < tl → J 28 i = I 28 i) ∧ ∀ a b, ¬ (a = 27 ∧ b = 1) → a ≠ 28 → J a b = I a b := by
  obtain ⟨J, e1, e2⟩ := loop_run (body := fun a => m_X10_putAll_b2 27 m a.1 a.2) (Inv := fun n a => ∃ x, x ≤ wl ∧ n = wl - x ∧ a.1 = nI x ∧ a.2 27 1 = nI (tl + x) ∧ (∀ i, i < x → a.2 28 (tl + i) = nI (f i)) ∧ (∀ i, i < tl → a.2 28 i = I 28 i) ∧ ∀ p b, ¬ (p = 27 ∧ b = 1) → p ≠ 28 → a.2 p b = I p b)
    (Post := fun J => J 27 1 = nI (tl + wl) ∧ (∀ i, i < wl → J 28 (tl + i) = nI (f i)) ∧ (∀ i, i < tl → J 28 i = I 28 i) ∧ ∀ a b, ¬ (a = 27 ∧ b = 1) → a ≠ 28 → J a b = I a b)
    (fun n a ⟨x, hx, hn, a1, a2, a3, a4, a5⟩ => by
      obtain ⟨c, J⟩ := a
      have a1 : c = nI x := a1
      subst a1
      have a2 : J 27 1 = nI (tl + x) := a2
      have a3 : ∀ i, i < x → J 28 (tl + i) = nI (f i) := a3
      have a4 : ∀ i, i < tl → J 28 i = I 28 i := a4
      have a5 : ∀ p b, ¬ (p = 27 ∧ b = 1) → p ≠ 28 → J p b = I p b := a5
      have b1 : J m 1 = nI wl := by rw [a5 m 1 (by omega) (by omega), h1]
      by_cases hlt : x < wl
      · have z1 : ¬ nI wl ≤ nI x := nI_ge hlt (by omega)
        obtain ⟨y1, y2⟩ := h2 x hlt
        have z2 := at_ok (I := J) hw hlt b1 (by rw [a5 _ _ (by omega) (by omega)]; exact y2) y1
        have z3 : nI (tl + x) < 300 := nI_lt (b := 300) (by omega) (by omega)
        have z4 : inb (nI (tl + x)) 300 = true := inb_n (by omega) (by omega)
        have z5 : (nI (tl + x)).toNatClampNeg = tl + x := nI_clamp (by omega)
        have z6 : okc (nI (f x)) = true := okc_n' y1
        refine Or.inr ⟨(nI x + 1, ms (ms J 28 (tl + x) (nI (f x))) 27 1 (nI (tl + x) + 1)), wl - (x + 1), by omega, ?_, x + 1, by omega, rfl, nI_1 x, ?_, fun i hi => ?_, fun i hi => ?_, fun p b g1 g2 => ?_⟩
        · simp [m_X10_putAll_b2, b1, z1, z2, m_X10_put, a2, z3, z4, z5, z6, gd_t, bnd, ms_app]
        · simp [ms_app, nI_1, Nat.add_assoc]
        · by_cases q : i = x
          · subst q; simp [ms_app]
          · simp [ms_app, q, a3 i (by omega)]
        · have q : ¬ i = tl + x := by omega
          simp [ms_app, q, a4 i hi]
        · simp only [ms_app]
          rw [if_neg (by omega), if_neg (by omega), a5 p b g1 g2]
      · have hx2 : x = wl := by omega
        subst hx2
        exact Or.inl ⟨J, by simp [m_X10_putAll_b2, b1, nI_le (Nat.le_refl x) (show x < 2 ^ 31 by omega)], a2, a3, a4, a5⟩) FU wl ((0 : Int32), I) (by unfold FU; omega) ⟨0, by omega, by omega, rfl, h3, fun i hi => absurd hi (Nat.not_lt_zero _), fun _ _ => rfl, fun _ _ _ _ => rfl⟩
  exact ⟨J, by simp [m_X10_putAll, e1], e2⟩
theorem x12_fw_ok {I : Mem} {wl tl : Nat} {f : Nat → Nat} (hw : wl ≤ 300) (h1 : I 196 46 = nI wl) (h2 : ∀ i, i < wl → f i < 65536 ∧ I 229 i = nI (f i)) (h3 : I 196 13 = nI tl) (h4 : tl + wl ≤ 300) :
    ∃ J, loopF (fun a => m_X12_feedWritten_b31 196 a.1 a.2) FU ((0 : Int32), I) = some J ∧ J 196 13 = nI (tl + wl) ∧ (∀ i, i < wl → J 206 (tl + i) = nI (f i)) ∧ (∀ i, i < tl → J 206 i = I 206 i) ∧ ∀ a b, ¬ (a = 196 ∧ b = 13) → a ≠ 206 → J a b = I a b := by
  exact loop_run (body := fun a => m_X12_feedWritten_b31 196 a.1 a.2) (Inv := fun n a => ∃ x, x ≤ wl ∧ n = wl - x ∧ a.1 = nI x ∧ a.2 196 13 = nI (tl + x) ∧ (∀ i, i < x → a.2 206 (tl + i) = nI (f i)) ∧ (∀ i, i < tl → a.2 206 i = I 206 i) ∧ ∀ p b, ¬ (p = 196 ∧ b = 13) → p ≠ 206 → a.2 p b = I p b)
    (Post := fun J => J 196 13 = nI (tl + wl) ∧ (∀ i, i < wl → J 206 (tl + i) = nI (f i)) ∧ (∀ i, i < tl → J 206 i = I 206 i) ∧ ∀ a b, ¬ (a = 196 ∧ b = 13) → a ≠ 206 → J a b = I a b)
    (fun n a ⟨x, hx, hn, a1, a2, a3, a4, a5⟩ => by
      obtain ⟨c, J⟩ := a
      have a1 : c = nI x := a1
      subst a1
      have a2 : J 196 13 = nI (tl + x) := a2
      have a3 : ∀ i, i < x → J 206 (tl + i) = nI (f i) := a3
      have a4 : ∀ i, i < tl → J 206 i = I 206 i := a4
      have a5 : ∀ p b, ¬ (p = 196 ∧ b = 13) → p ≠ 206 → J p b = I p b := a5
      have b1 : J 196 46 = nI wl := by rw [a5 196 46 (by omega) (by omega), h1]
      by_cases hlt : x < wl
      · have z1 : ¬ nI wl ≤ nI x := nI_ge hlt (by omega)
        obtain ⟨y1, y2⟩ := h2 x hlt
        have b2 : J 229 x = nI (f x) := by rw [a5 _ _ (by omega) (by omega)]; exact y2
        have z2 : inb (nI x) 300 = true := inb_n (by omega) (by omega)
        have z3 : (nI x).toNatClampNeg = x := nI_clamp (by omega)
        have z4 : inb (nI (tl + x)) 300 = true := inb_n (by omega) (by omega)
        have z5 : (nI (tl + x)).toNatClampNeg = tl + x := nI_clamp (by omega)
        have z6 : okc (nI (f x)) = true := okc_n' y1
        refine Or.inr ⟨(nI x + 1, ms (ms J 206 (tl + x) (nI (f x))) 196 13 (nI (tl + x) + 1)), wl - (x + 1), by omega, ?_, x + 1, by omega, rfl, nI_1 x, ?_, fun i hi => ?_, fun i hi => ?_, fun p b g1 g2 => ?_⟩
        · simp [m_X12_feedWritten_b31, b1, z1, z2, z3, a2, z4, z5, b2, z6, gd_t, bnd, ms_app]
        · simp [ms_app, nI_1, Nat.add_assoc]
        · by_cases q : i = x
          · subst q; simp [ms_app]
          · simp [ms_app, q, a3 i (by omega)]
        · have q : ¬ i = tl + x := by omega
          simp [ms_app, q, a4 i hi]
        · simp only [ms_app]
          rw [if_neg (by omega), if_neg (by omega), a5 p b g1 g2]
      · have hx2 : x = wl := by omega
        subst hx2
        exact Or.inl ⟨J, by simp [m_X12_feedWritten_b31, b1, nI_le (Nat.le_refl x) (show x < 2 ^ 31 by omega)], a2, a3, a4, a5⟩) FU wl ((0 : Int32), I) (by unfold FU; omega) ⟨0, by omega, by omega, rfl, h3, fun i hi => absurd hi (Nat.not_lt_zero _), fun _ _ => rfl, fun _ _ _ _ => rfl⟩
theorem op_feedWritten {I : Mem} (hI : Inv I) : OKc (caseA (wrE hv_feedWritten (m_X11_feedWritten 0 I)) (fun I => m_X12_feedWritten 196 I)) := by
  obtain ⟨tx, tl, t1, t2, t3, t4⟩ := hI.2.2.1
  obtain ⟨m, d, wl, k, hm, h1, h2, h3, h4, h5, h6, h7, h8, h9⟩ := hI.2.2.2.2.2.2.2
  have e1 : (nI m).toNatClampNeg = m := nI_clamp (by omega)
  have e2 := (io_sh hm).1
  by_cases hs : tl + wl ≤ 300
  · have g1 : nI (tl + wl) ≤ 300 := nI_le (b := 300) hs (by omega)
    have hch : ∃ f : Nat → Nat, ∀ i, i < wl → 32 ≤ f i ∧ f i ≤ 126 ∧ I (m + 1) i = nI (f i) ∧ I 229 i = nI (f i) := by
      refine ⟨fun i => if h : i < wl then (h6 i h).choose else 0, fun i hi => ?_⟩
      have := (h6 i hi).choose_spec
      simpa [hi] using this
    obtain ⟨f, hf⟩ := hch
    obtain ⟨J, j1, j2, j3, j4, j5⟩ := putAll_ok (f := f) (by omega : m = 192 ∨ m = 194) h3 h4 (fun i hi => ⟨by have := hf i hi; omega, (hf i hi).2.2.1⟩) t2 hs
    have k5 : ∀ a b, a = 196 ∨ a = 229 ∨ a = 206 → ms (ms J 230 0 (nI (tl + wl))) 196 48 0 a b = if a = 196 ∧ b = 48 then 0 else I a b := fun a b hab => by
      simp only [ms_app]
      by_cases z : a = 196 ∧ b = 48
      · rw [if_pos z, if_pos z]
      · rw [if_neg z, if_neg (by omega), if_neg z, j5 a b (by omega) (by omega)]
    obtain ⟨L, l1, l2, l3, l4, l5⟩ := x12_fw_ok (I := ms (ms J 230 0 (nI (tl + wl))) 196 48 0) (f := f) h3 (by rw [k5 _ _ (by omega)]; simp [h5]) (fun i hi => ⟨by have := hf i hi; omega, by rw [k5 _ _ (by omega)]; simp [(hf i hi).2.2.2]⟩) (by rw [k5 _ _ (by omega)]; simp [t3]) hs
    refine opA_ok (v := nI (tl + wl)) (I1 := J) (I2 := L) ?_ ?_ ?_ ?_ ?_
    · simp [m_X11_feedWritten, m_X10_count, t2, h1, e1, e2, gd_t, h4, nI_add, g1, j1, j2]
    · have y1 : ms J 230 0 (nI (tl + wl)) 196 13 = nI tl := by simp [ms_app]; rw [j5 _ _ (by omega) (by omega), t3]
      have y2 : ms J 230 0 (nI (tl + wl)) 196 46 = nI wl := by simp [ms_app]; rw [j5 _ _ (by omega) (by omega), h5]
      simp only [m_X12_feedWritten, y1, y2, nI_add, g1, if_true]
      simp [m_X12_feedWritten_j21, m_X12_isFine, bnd, l1, l2]
    · rw [l5 _ _ (by omega) (by omega)]; simp [ms_app]
    · rw [l5 _ _ (by omega) (by omega)]; simp [ms_app]
    · have w : ∀ a b, ¬ (a = 27 ∧ b = 1) → a ≠ 28 → a ≠ 206 → a ≠ 230 → ¬ (a = 196 ∧ (b = 13 ∨ b = 48)) → L a b = I a b := fun a b z1 z2 z3 z4 z5 => by
        rw [l5 _ _ (by omega) z3]
        simp only [ms_app]
        rw [if_neg (by omega), if_neg (by omega), j5 a b z1 z2]
      refine hI.txt (fun a b hd => w a b (by unfold DTxt at hd; omega) (by unfold DTxt at hd; omega) (by unfold DTxt at hd; omega) (by omega) (by unfold DTxt at hd; omega)) ⟨fun i => if i < tl then tx i else f (i - tl), tl + wl, hs, ?_, l2, fun i hi => ?_⟩
      · rw [l5 _ _ (by omega) (by omega)]
        simp [ms_app, j2]
      · by_cases z : i < tl
        · obtain ⟨q1, q2, q3, q4⟩ := t4 i z
          simp only [z, if_true]
          refine ⟨q1, q2, ?_, ?_⟩
          · rw [l5 _ _ (by omega) (by omega)]
            simp [ms_app]
            rw [j4 i z, q3]
          · rw [l4 i z]
            rw [k5 _ _ (by omega)]
            simp [q4]
        · obtain ⟨q1, q2, q3, q4⟩ := hf (i - tl) (by omega)
          simp only [z, if_false]
          refine ⟨q1, q2, ?_, ?_⟩
          · rw [l5 _ _ (by omega) (by omega)]
            have := j3 (i - tl) (by omega)
            rw [show tl + (i - tl) = i by omega] at this
            simp [ms_app, this]
          · have := l3 (i - tl) (by omega)
            rw [show tl + (i - tl) = i by omega] at this
            exact this
  · have g1 : ¬ nI (tl + wl) ≤ 300 := nI_ge (a := 300) (by omega) (by omega)
    exact opA_ex (c := 1) (k := 1) (I1 := I) (I2 := ms I 196 48 1) (v := 0) (by simp [m_X11_feedWritten, m_X10_count, t2, h1, e1, e2, gd_t, h4, nI_add, g1]) rfl (by decide) (by simp [m_X12_feedWritten, t3, h5, nI_add, g1, m_X12_feedWritten_j21, m_X12_isFine, bnd]) (ms_s rfl rfl) hI.thr
