/-! reading: the reference's split, the whole text -/
theorem MsM.push {K K' : Mem} {X : List Sg} {S : Sg} (h : MsM K X) (hX : ∀ s ∈ X, s.2.2.length ≤ 5) (hS : SgM K' X.length S) (h22 : K' 196 22 = nI (X.length + 1)) (hf : FrX X.length K K') : MsM K' (X ++ [S]) := by
  refine ⟨by rw [h22, List.length_append]; rfl, fun i hi => ?_⟩
  rw [List.length_append] at hi
  simp only [List.length_cons, List.length_nil] at hi
  by_cases o : i = X.length
  · subst o
    rw [getD_lastS]
    exact hS
  · have hi2 : i < X.length := by omega
    rw [getD_appS hi2]
    refine (h.2 i hi2).x (hX _ ?_) o hf
    rw [List.getD_eq_getElem?_getD, List.getElem?_eq_getElem hi2]
    exact List.getElem_mem hi2
theorem MsM.g {K K' : Mem} {S : List Sg} (h : MsM K S) (hf : ∀ a b, (a = 196 ∧ b = 22) ∨ (209 ≤ a ∧ a ≤ 213) → K' a b = K a b) : MsM K' S := by
  obtain ⟨h1, h2⟩ := h
  refine ⟨by rw [hf _ _ (by omega), h1], fun i hi => ?_⟩
  obtain ⟨k1, k2, k3, k4⟩ := h2 i hi
  refine ⟨by rw [hf _ _ (by omega), k1], by rw [hf _ _ (by omega), k2], by rw [hf _ _ (by omega), k3], fun j hj => ?_⟩
  obtain ⟨m1, m2⟩ := k4 j hj
  exact ⟨by rw [hf _ _ (by omega), m1], fun x hx h8 => by rw [hf _ _ (by omega)]; exact m2 x hx h8⟩
theorem splitM {K : Mem} {t : Nat → Nat} {n : Nat} (h : TxM K t n) (hF0 : FlM K []) :
    ∃ K', m_X12_splits 196 K = some K' ∧ MsM K' (spS t n 20 0) ∧ FlM K' (spF t n 20 0) ∧ FrR K K' := by
  have hn := h.1
  obtain ⟨SS, hSS⟩ : ∃ SS, SS = spS t n 20 0 := ⟨_, rfl⟩
  obtain ⟨FF, hFF⟩ : ∃ FF, FF = spF t n 20 0 := ⟨_, rfl⟩
  rw [← hSS, ← hFF]
  obtain ⟨b, f1, f2⟩ := loop_run (body := fun a => m_X12_splits_b9 196 a.1 a.2.1 a.2.2)
    (Inv := fun r a' => ∃ a X F on, a ≤ n ∧ r = 2 * (n - a) + (if on = true then 1 else 0) ∧ a'.1 = nI a ∧ a'.2.1 = bz on ∧ X.length ≤ 20 ∧ (∀ s ∈ X, s.2.2.length ≤ 5) ∧ (on = true → X ++ spS t n (20 - X.length) a = SS ∧ F ++ spF t n (20 - X.length) a = FF ∧ F.length ≤ 7 * X.length) ∧ (on = false → X = SS ∧ F = FF) ∧ MsM a'.2.2 X ∧ FlM a'.2.2 F ∧ FrR K a'.2.2)
    (Post := fun b => ∃ a F on, b.1 = nI a ∧ b.2.1 = bz on ∧ a ≤ n ∧ (on = true → F.length < 160 ∧ F ++ (if a < n then [(5, a)] else []) = FF) ∧ (on = false → F = FF) ∧ MsM b.2.2 SS ∧ FlM b.2.2 F ∧ FrR K b.2.2) (fun r a' ⟨a, X, F, on, g1, g2, g3, g3', g4, g4', g5, g6, g8, g9, g10⟩ => by
      obtain ⟨x1, x2, I⟩ := a'
      simp only at g3 g3' g8 g9 g10
      subst g3
      subst g3'
      have hTI : TxM I t n := h.fr fun a b q => g10 a b (by omega) (by omega)
      have c1 : I 196 13 = nI n := hTI.2.1
      have c2 : I 196 22 = nI X.length := g8.1
      cases on with
      | false =>
        obtain ⟨g6, g7⟩ := g6 rfl
        subst g6
        subst g7
        by_cases z : a < n
        · have cc : ¬ nI n ≤ nI a := nI_ge z (by omega)
          by_cases y : X.length = 20
          · have c5 : (20 : Int32) ≤ nI X.length := nI_le (a := 20) (by omega) (by omega)
            exact Or.inl ⟨(nI a, bz false, I), by simp only [m_X12_splits_b9, c1, cc, if_false, c2, c5, if_true], a, F, false, rfl, rfl, g1, fun h => (nomatch h), fun _ => rfl, g8, g9, g10⟩
          · have c5 : ¬ 20 ≤ nI X.length := nI_ge (b := 20) (by omega) (by omega)
            exact Or.inl ⟨(nI a, bz false, I), by simp only [m_X12_splits_b9, c1, cc, if_false, c2, c5, bz_f, if_true], a, F, false, rfl, rfl, g1, fun h => (nomatch h), fun _ => rfl, g8, g9, g10⟩
        · have cc : nI n ≤ nI a := nI_le (by omega) (by omega)
          exact Or.inl ⟨(nI a, bz false, I), by simp only [m_X12_splits_b9, c1, cc, if_true], a, F, false, rfl, rfl, g1, fun h => (nomatch h), fun _ => rfl, g8, g9, g10⟩
      | true =>
        obtain ⟨g5, g6', g7⟩ := g5 rfl
        have n10 : ¬ (1 : Int32) = 0 := by decide
        by_cases z : a < n
        · have cc : ¬ nI n ≤ nI a := nI_ge z (by omega)
          by_cases y : X.length = 20
          · have c5 : (20 : Int32) ≤ nI X.length := nI_le (a := 20) (by omega) (by omega)
            rw [y, Nat.sub_self] at g5 g6'
            rw [spS_0 (a := a), List.append_nil] at g5
            rw [spF_0 (a := a)] at g6'
            exact Or.inl ⟨(nI a, bz true, I), by simp only [m_X12_splits_b9, c1, cc, if_false, c2, c5, if_true], a, F, true, rfl, rfl, g1, fun _ => ⟨by omega, g6'⟩, fun h => (nomatch h), by rw [← g5]; exact g8, g9, g10⟩
          · have c5 : ¬ 20 ≤ nI X.length := nI_ge (b := 20) (by omega) (by omega)
            have eo := endOf_ok hTI g1
            have sg := skp_ge (t := t) (c := 39) (lim := n) n a (by omega)
            rw [show 20 - X.length = (20 - (X.length + 1)) + 1 by omega] at g5 g6'
            rw [spS_s (f := 20 - (X.length + 1)) (a := a), if_pos z] at g5
            rw [spF_s (f := 20 - (X.length + 1)) (a := a), if_pos z] at g6'
            by_cases y2 : skp t 39 n a < n
            · have cc2 : ¬ nI n ≤ nI (skp t 39 n a) := nI_ge y2 (by omega)
              rw [Nat.min_eq_left (by omega)] at eo
              rw [if_pos y2] at g5 g6'
              obtain ⟨I2, u1, u2, u3, u4, u5⟩ := partsM hTI ⟨rfl, y2⟩ (show X.length < 20 by omega) c2 g9 (by omega)
              have e3 : nI (skp t 39 n a) + 1 = nI (skp t 39 n a + 1) := nI_1 _
              refine Or.inr ⟨(nI (skp t 39 n a + 1), bz true, I2), 2 * (n - (skp t 39 n a + 1)) + 1, ?_, by simp only [m_X12_splits_b9, c1, cc, if_false, c2, c5, bz_t, n10, eo, Option.bind_some, cc2, m_X12_splits_j49, u1, m_X12_splits_j73, e3], skp t 39 n a + 1, X ++ [sgS t (skp t 39 n a) a], F ++ sgF t (skp t 39 n a) a, true, by omega, rfl, rfl, rfl, by simp; omega, ?_, fun _ => ⟨?_, ?_, ?_⟩, fun h => (nomatch h), g8.push g4' u2 u4 u5, u3, g10.tr u5.r⟩
              · rw [g2, if_pos rfl]
                omega
              · intro s hs
                rw [List.mem_append] at hs
                rcases hs with hs | hs
                · exact g4' s hs
                · rw [List.mem_singleton] at hs
                  subst hs
                  exact elP_len 5 _
              · rw [List.length_append]
                simp only [List.length_cons, List.length_nil, Nat.zero_add]
                rw [List.append_assoc, ← g5]
                rfl
              · rw [List.length_append]
                simp only [List.length_cons, List.length_nil, Nat.zero_add]
                rw [List.append_assoc, ← g6']
              · have := sgF_len (t := t) (e := skp t 39 n a) (a := a)
                rw [List.length_append, List.length_append]
                simp only [List.length_cons, List.length_nil]
                omega
            · rw [Nat.min_eq_right (by omega)] at eo
              have cc2 : nI n ≤ nI n := nI_le (by omega) (by omega)
              rw [if_neg y2] at g5 g6'
              rw [List.append_nil] at g5
              obtain ⟨I2, q1, q2, q3⟩ := FlM.add (k := 1) (p := a) g9 (by omega)
              have q1' : m_X12_fault 196 (1 : Int32) (nI a) I = some I2 := q1
              rw [g6'] at q2
              refine Or.inr ⟨(nI a, bz false, I2), 2 * (n - a), ?_, by simp only [m_X12_splits_b9, c1, cc, if_false, c2, c5, bz_t, n10, eo, Option.bind_some, cc2, if_true, m_X12_splits_j49, q1', m_X12_splits_j73, bz_f], a, X, FF, false, g1, rfl, rfl, rfl, g4, g4', fun h => (nomatch h), fun _ => ⟨g5, rfl⟩, g8.g fun a b q => q3 a b (by omega) (by omega) (by omega), q2, fun a b p q => by show I2 a b = _; rw [q3 a b (by omega) (by omega) (by omega), g10 a b p q]⟩
              rw [g2, if_pos rfl]
              omega
        · have cc : nI n ≤ nI a := nI_le (by omega) (by omega)
          rw [spS_e z, List.append_nil] at g5
          rw [spF_e z, List.append_nil] at g6'
          exact Or.inl ⟨(nI a, bz true, I), by simp only [m_X12_splits_b9, c1, cc, if_true], a, F, true, rfl, rfl, g1, fun _ => ⟨by omega, by rw [if_neg z, List.append_nil]; exact g6'⟩, fun h => (nomatch h), by rw [← g5]; exact g8, g9, g10⟩) FU (2 * n + 1) ((0 : Int32), (1 : Int32), ms K 196 22 0) (by unfold FU; omega)
    ⟨0, [], [], true, by omega, by simp, rfl, rfl, by simp, by simp, fun _ => ⟨by rw [hSS]; rfl, by rw [hFF]; rfl, by simp⟩, fun h => (nomatch h), ⟨by show ms K 196 22 0 196 22 = 0; exact ms_s rfl rfl, fun i hi => absurd hi (Nat.not_lt_zero _)⟩, hF0.g fun a b q => ms_o (by omega), fun a b p q => ms_o (by omega)⟩
  obtain ⟨a, F, on, o1, o2, o3, o4, o5, o6, o7, o8⟩ := f2
  have c1 : b.2.2 196 13 = nI n := by rw [o8 _ _ (by omega) (by omega), h.2.1]
  cases on with
  | false =>
    rw [bz_f] at o2
    have o5 := o5 rfl
    subst o5
    by_cases z : nI n ≤ nI a
    · exact ⟨b.2.2, by simp only [m_X12_splits, bnd, f1, Option.bind_some, c1, o1, z, if_true], o6, o7, o8⟩
    · exact ⟨b.2.2, by simp only [m_X12_splits, bnd, f1, Option.bind_some, c1, o1, z, if_false, o2, if_true], o6, o7, o8⟩
  | true =>
    rw [bz_t] at o2
    obtain ⟨o4, o4'⟩ := o4 rfl
    have n10 : ¬ (1 : Int32) = 0 := by decide
    by_cases z : a < n
    · have cc : ¬ nI n ≤ nI a := nI_ge z (by omega)
      rw [if_pos z] at o4'
      obtain ⟨J', q1, q2, q3⟩ := FlM.add (k := 5) (p := a) o7 o4
      have q1' : m_X12_fault 196 (5 : Int32) (nI a) b.2.2 = some J' := q1
      rw [o4'] at q2
      exact ⟨J', by simp only [m_X12_splits, bnd, f1, Option.bind_some, c1, o1, cc, if_false, o2, n10, q1'], o6.g fun a b q => q3 a b (by omega) (by omega) (by omega), q2, fun a b p q => by rw [q3 a b (by omega) (by omega) (by omega), o8 a b p q]⟩
    · have cc : nI n ≤ nI a := nI_le (by omega) (by omega)
      rw [if_neg z, List.append_nil] at o4'
      rw [o4'] at o7
      exact ⟨b.2.2, by simp only [m_X12_splits, bnd, f1, Option.bind_some, c1, o1, cc, if_true], o6, o7, o8⟩
