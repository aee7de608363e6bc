theorem Inv.rul {I I' : Mem} (h : Inv I) (hc : ∀ a b, ¬ (DRul a b ∨ (a = 196 ∧ b = 48) ∨ a = 230) → I' a b = I a b) (hs : Rul I') : Inv I' := by
  obtain ⟨h1, h2, h3, h4, h5, h6, h7, h8⟩ := h
  unfold DRul at hc
  exact ⟨h1.congr fun a b hd => hc a b (by unfold DSch at hd; omega), h2.congr fun a b hd => hc a b (by unfold DNon at hd; omega), h3.congr fun a b hd => hc a b (by unfold DTxt at hd; omega), h4.congr fun a b hd => hc a b (by unfold DFlt at hd; omega), h5.congr fun a b hd => hc a b (by unfold DCtl at hd; omega), h6.congr fun a b hd => hc a b (by unfold DAcc' at hd; omega), hs, h8.congr fun a b hd => hc a b (by unfold DOut' at hd; omega)⟩
theorem io_rul : ∀ r, r < 10 → iO (42 + 2 * r) 6 = true := by
  have h : ∀ i : Fin 10, iO (42 + 2 * i.val) 6 = true := by decide +kernel
  exact fun i hi => h ⟨i, hi⟩
theorem op_addRule {I : Mem} (hI : Inv I) (p : Int32) (t : Nat) (ht : t < 65536) : OKc (caseA (wrE hv_addRule (m_X11_addRule 0 p (nI t) I)) (fun I => m_X12_addRule 196 p (nI t) I)) := by
  obtain ⟨T, ni, ne, op, hC, hM, hF⟩ := hI.1
  obtain ⟨nr, r1, r2, r3, r4⟩ := hI.2.2.2.2.2.2.1
  have i1 := hC.1
  have i2 := hM.1
  have i3 := hF.1
  rcases ix_or p (n := ni) (by omega) with c | ⟨c0, c1, c2, c3⟩ | ⟨j, hj, rfl, c0, c1, c2, c3⟩
  · exact opA_ex (c := 1) (k := 2) (I1 := I) (I2 := ms I 196 48 1) (v := 0) (by simp [m_X11_addRule, c, m_X11_addRule_j15]) rfl (by decide) (by simp [m_X12_addRule, m_X12_in, c, m_X12_addRule_j44, m_X12_isFine, bnd]) (ms_s rfl rfl) hI.thr
  · exact opA_ex (c := 1) (k := 2) (I1 := I) (I2 := ms I 196 48 1) (v := 0) (by simp [m_X11_addRule, c0, m_X8_itemCount, i1, c2, m_X11_addRule_j15]) rfl (by decide) (by simp [m_X12_addRule, m_X12_in, c0, i2, c3, m_X12_addRule_j44, m_X12_isFine, bnd]) (ms_s rfl rfl) hI.thr
  · have bad : (m_X11_isBodyTag (nI t) I = some 0) → (m_X12_isTag (nI t) I = some 0) → OKc (caseA (wrE hv_addRule (m_X11_addRule 0 (nI j) (nI t) I)) (fun I => m_X12_addRule 196 (nI j) (nI t) I)) := fun z1 z2 =>
      opA_ex (c := 2) (k := 0) (I1 := I) (I2 := ms I 196 48 2) (v := 0) (by simp [m_X11_addRule, c0, m_X8_itemCount, i1, c2, z1]) rfl (by decide) (by simp [m_X12_addRule, m_X12_in, c0, i2, c3, z2, m_X12_addRule_j44, m_X12_isFine, bnd]) (ms_s rfl rfl) hI.thr
    by_cases d1 : nI t < 65
    · exact bad (by simp [m_X11_isBodyTag, m_X11_isTag, d1]) (by simp [m_X12_isTag, m_X12_in, d1])
    by_cases d2 : 90 < nI t
    · exact bad (by simp [m_X11_isBodyTag, m_X11_isTag, d1, d2]) (by simp [m_X12_isTag, m_X12_in, d1, d2])
    by_cases d3 : nI t = 72
    · exact bad (by simp [m_X11_isBodyTag, m_X11_isTag, d3]) (by simp [m_X12_isTag, m_X12_in, d3])
    by_cases d4 : nI t = 84
    · exact bad (by simp [m_X11_isBodyTag, m_X11_isTag, d4]) (by simp [m_X12_isTag, m_X12_in, d4])
    have t1 : 65 ≤ t := Nat.not_lt.mp fun h => d1 (nI_lt (b := 65) h (by omega))
    have t2 : t ≤ 90 := Nat.not_lt.mp fun h => d2 (nI_lt (a := 90) h (by omega))
    have z1 : m_X11_isBodyTag (nI t) I = some 1 := by simp [m_X11_isBodyTag, m_X11_isTag, d1, d2, d3, d4]
    have z2 : ∀ J, m_X12_isTag (nI t) J = some 1 := fun J => by simp [m_X12_isTag, m_X12_in, d1, d2, d3, d4]
    by_cases hn : nr = 10
    · have g1 : ¬ nI nr < 10 := by rw [hn]; decide
      have g2 : nI nr = 10 := by rw [hn]; decide
      exact opA_ex (c := 3) (k := 1) (I1 := I) (I2 := ms I 196 48 3) (v := 0) (by simp [m_X11_addRule, c0, m_X8_itemCount, i1, c2, z1, m_X7_count, r2, g1]) rfl (by decide) (by simp [m_X12_addRule, m_X12_in, c0, i2, c3, z2, r3, g2, m_X12_addRule_j44, m_X12_isFine, bnd]) (ms_s rfl rfl) hI.thr
    · have g1 : nI nr < 10 := nI_lt (b := 10) (by omega) (by omega)
      have g2 : ¬ nI nr = 10 := fun h => absurd ((nI_eq (b := 10) (by omega) (by omega)).mp h) (by omega)
      have e3 : inb (nI nr) 10 = true := inb_n (by omega) (by omega)
      have e4 : (nI nr).toNatClampNeg = nr := nI_clamp (by omega)
      have hp : okc (nI t) = true := okc_n' ht
      have e11 : nI nr + 1 - 1 = nI nr := by rw [nI_1, nI_pred]
      have a1 : 39 + (3 + 2 * nr) = 42 + 2 * nr := by omega
      have a2 : ¬ 38 = 42 + 2 * nr := by omega
      have a3 : ¬ 196 = 42 + 2 * nr := by omega
      refine opA_ok (v := nI nr) (I1 := ms (ms (ms (ms (ms I (42 + 2 * nr) 1 (nI j)) (42 + 2 * nr) 2 (nI t)) (42 + 2 * nr) 3 0) (42 + 2 * nr) 4 (-1)) 38 2 (nI nr + 1)) (I2 := ms (ms (ms (ms (ms (ms (ms (ms (ms (ms (ms I (42 + 2 * nr) 1 (nI j)) (42 + 2 * nr) 2 (nI t)) (42 + 2 * nr) 3 0) (42 + 2 * nr) 4 (-1)) 38 2 (nI nr + 1)) 230 0 (nI nr)) 196 48 0) 222 nr (nI j)) 223 nr (nI t)) 224 nr 0) 226 nr (-1) |> fun J => ms J 196 42 (nI nr + 1)) ?_ ?_ ?_ ?_ ?_
      · simp [m_X11_addRule, c0, m_X8_itemCount, i1, c2, z1, m_X7_count, r2, g1, m_X7_append, e3, e4, gd_t, m_X6_begin, bnd, a1, hp, ms_app, a2, e11]
      · simp [m_X12_addRule, m_X12_in, c0, i2, c3, z2, r3, g2, m_X12_addRule_j44, m_X12_isFine, bnd, ms_app, a3, e3, e4, gd_t, hp, e11]
      · simp [ms_app, a3]
      · have a4 : ¬ 230 = 42 + 2 * nr := by omega
        simp [ms_app, a4]
      · refine hI.rul (fun a b hd => ?_) ⟨nr + 1, by omega, ?_, ?_, fun r hr => ?_⟩
        · unfold DRul at hd
          simp only [ms_app]
          repeat rw [if_neg (by omega)]
        · simp [ms_app, nI_1]
        · simp [ms_app, nI_1]
        · by_cases x : r = nr
          · subst x
            have b1 : ¬ (42 + 2 * r = 38) := by omega
            have b2 : ¬ (42 + 2 * r = 230) := by omega
            have b3 : ∀ k, 222 ≤ k → ¬ (42 + 2 * r = k) := fun k _ => by omega
            have b4 : ¬ (42 + 2 * r = 196) := by omega
            have b5 : ∀ k, 222 ≤ k → ¬ (k = 42 + 2 * r) := fun k _ => by omega
            refine ⟨by simp [ms_app, b1, b2, b3, b4, b5], by simp [ms_app, b1, b2, b3, b4, b5], ⟨t, t1, t2, by simp [ms_app, b5]⟩, ⟨0, by omega, by simp [ms_app, b1, b2, b3, b4, nI_0], by simp [ms_app, b5, nI_0], fun x hx => absurd hx (Nat.not_lt_zero _)⟩, Or.inl ⟨by simp [ms_app, b1, b2, b3, b4], by simp [ms_app, b5]⟩⟩
          · have hold := r4 r (by omega)
            obtain ⟨h1, h2, ⟨q0, h3, h3', h3''⟩, ⟨f, h4, h5, h6, h7⟩, h8⟩ := hold
            have w : ∀ a b, (a = 42 + 2 * r ∨ a = 43 + 2 * r ∨ (222 ≤ a ∧ a ≤ 224 ∧ b = r) ∨ (226 ≤ a ∧ a ≤ 227 ∧ b = r) ∨ a = 225) → (ms (ms (ms (ms (ms (ms (ms (ms (ms (ms (ms I (42 + 2 * nr) 1 (nI j)) (42 + 2 * nr) 2 (nI t)) (42 + 2 * nr) 3 0) (42 + 2 * nr) 4 (-1)) 38 2 (nI nr + 1)) 230 0 (nI nr)) 196 48 0) 222 nr (nI j)) 223 nr (nI t)) 224 nr 0) 226 nr (-1) |> fun J => ms J 196 42 (nI nr + 1)) a b = I a b := fun a b hab => by
              simp only [ms_app]
              repeat rw [if_neg (by omega)]
            refine ⟨by rw [w _ _ (by omega), w _ _ (by omega), h1], by rw [w _ _ (by omega), w _ _ (by omega), h2], ⟨q0, h3, h3', by rw [w _ _ (by omega), h3'']⟩, ⟨f, h4, by rw [w _ _ (by omega), h5], by rw [w _ _ (by omega), h6], fun x hx => ?_⟩, ?_⟩
            · obtain ⟨q, y1, y2, y3⟩ := h7 x hx
              exact ⟨q, y1, by rw [w _ _ (by omega), y2], by rw [w _ _ (by omega), y3]⟩
            · rcases h8 with ⟨y1, y2⟩ | ⟨q, y1, y2, y3, y4⟩
              · exact Or.inl ⟨by rw [w _ _ (by omega), y1], by rw [w _ _ (by omega), y2]⟩
              · exact Or.inr ⟨q, y1, by rw [w _ _ (by omega), y2], by rw [w _ _ (by omega), y3], by rw [w _ _ (by omega), w _ _ (by omega), y4]⟩
