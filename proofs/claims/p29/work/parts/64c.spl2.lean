def MsC (J : Mem) (d : Nat) (S : List Sg) : Prop := J d 2 = nI S.length ∧ ∀ i, i < S.length → SgD J (d + 5 + 3 * i) (S.getD i (0, [], []))
def FrP (d : Nat) (J J' : Mem) : Prop := ∀ a b, ¬ (29 ≤ a ∧ a ≤ 31) → ¬ (a = d ∧ b = 2) → ¬ (d + 5 ≤ a ∧ a < d + 65) → J' a b = J a b
theorem FrP.tr {d : Nat} {A B C : Mem} (h : FrP d A B) (h2 : FrP d B C) : FrP d A C := fun a b p q r => (h2 a b p q r).trans (h a b p q r)
theorem SgD.g {J J' : Mem} {g : Nat} {S : Sg} (h : SgD J g S) (hf : ∀ a b, g ≤ a ∧ a ≤ g + 2 → J' a b = J a b) : SgD J' g S :=
  ⟨by rw [hf _ _ (by omega), h.1], by rw [hf _ _ (by omega), h.2.1], h.2.2.g fun a b q => hf a b (by omega)⟩
theorem getD_appS {w : List Sg} {c z : Sg} {x : Nat} (h : x < w.length) : (w ++ [c]).getD x z = w.getD x z := by
  simp only [List.getD_eq_getElem?_getD]
  rw [List.getElem?_append_left h]
theorem getD_lastS {w : List Sg} {c z : Sg} : (w ++ [c]).getD w.length z = c := by simp [List.getD_eq_getElem?_getD]
theorem spS_s {t : Nat → Nat} {n f a : Nat} : spS t n (f + 1) a = if a < n then (if skp t 39 n a < n then sgS t (skp t 39 n a) a :: spS t n f (skp t 39 n a + 1) else []) else [] := rfl
theorem spS_0 {t : Nat → Nat} {n a : Nat} : spS t n 0 a = [] := rfl
theorem spF_s {t : Nat → Nat} {n f a : Nat} : spF t n (f + 1) a = if a < n then (if skp t 39 n a < n then sgF t (skp t 39 n a) a ++ spF t n f (skp t 39 n a + 1) else [(1, a)]) else [] := rfl
theorem spF_0 {t : Nat → Nat} {n a : Nat} : spF t n 0 a = if a < n then [(5, a)] else [] := rfl
theorem spS_e {t : Nat → Nat} {n a : Nat} (h : ¬ a < n) (f : Nat) : spS t n f a = [] := by
  cases f with
  | zero => rfl
  | succ f => rw [spS_s, if_neg h]
theorem spF_e {t : Nat → Nat} {n a : Nat} (h : ¬ a < n) (f : Nat) : spF t n f a = [] := by
  cases f with
  | zero => rw [spF_0, if_neg h]
  | succ f => rw [spF_s, if_neg h]
theorem splitC {J : Mem} {t : Nat → Nat} {n d : Nat} (h : TxC J t n) (hd : d = 62 ∨ d = 127) (hF0 : FlC J []) :
    ∃ J', m_X5_split 32 27 d J = some J' ∧ MsC J' d (spS t n 20 0) ∧ FlC J' (spF t n 20 0) ∧ FrP d J J' := by
  have hn := h.1
  obtain ⟨SS, hSS⟩ : ∃ SS, SS = spS t n 20 0 := ⟨_, rfl⟩
  obtain ⟨FF, hFF⟩ : ∃ FF, FF = spF t n 20 0 := ⟨_, rfl⟩
  rw [← hSS, ← hFF]
  obtain ⟨b, f1, f2⟩ := loop_run (body := fun a => m_X5_split_b9 32 27 d a.1 a.2.1 a.2.2)
    (Inv := fun r a' => ∃ a X F, a ≤ n ∧ r = n - a ∧ a'.1 = nI a ∧ a'.2.1 = nI X.length ∧ X.length ≤ 20 ∧ X ++ spS t n (20 - X.length) a = SS ∧ F ++ spF t n (20 - X.length) a = FF ∧ F.length ≤ 7 * X.length ∧ MsC a'.2.2 d X ∧ FlC a'.2.2 F ∧ FrP d J a'.2.2)
    (Post := fun b => smP (fun y => ∃ a F, y.1 = nI a ∧ a ≤ n ∧ F.length < 141 ∧ F ++ (if a < n then [(5, a)] else []) = FF ∧ MsC y.2 d SS ∧ FlC y.2 F ∧ FrP d J y.2) (fun y => ∃ a F, y.1 = nI a ∧ F.length < 141 ∧ F ++ [(1, a)] = FF ∧ MsC y.2 d SS ∧ FlC y.2 F ∧ FrP d J y.2) b) (fun r a' ⟨a, X, F, g1, g2, g3, g3', g4, g5, g6, g7, g8, g9, g10⟩ => by
      obtain ⟨x3, x4, I⟩ := a'
      simp only at g3 g3' g8 g9 g10
      subst g3
      subst g3'
      have hTI : TxC I t n := h.fr fun a b q => g10 a b (by omega) (by omega) (by omega)
      have c1 : I 27 1 = nI n := hTI.2.1
      have c2 : I d 2 = nI X.length := g8.1
      by_cases z : a < n
      · have cc : ¬ nI n ≤ nI a := nI_ge z (by omega)
        by_cases y : X.length = 20
        · have c5 : (20 : Int32) ≤ nI X.length := nI_le (a := 20) (by omega) (by omega)
          rw [y, Nat.sub_self] at g5 g6
          rw [spS_0 (a := a), List.append_nil] at g5
          rw [spF_0 (a := a)] at g6
          exact Or.inl ⟨.inl (nI a, I), by simp only [m_X5_split_b9, c5, if_true], a, F, rfl, g1, by omega, g6, by rw [← g5]; exact g8, g9, g10⟩
        · have c5 : ¬ 20 ≤ nI X.length := nI_ge (b := 20) (by omega) (by omega)
          have se := segmentEnd_ok hTI g1
          have sg := skp_ge (t := t) (c := 39) (lim := n) n a (by omega)
          rw [show 20 - X.length = (20 - (X.length + 1)) + 1 by omega] at g5 g6
          rw [spS_s (f := 20 - (X.length + 1)) (a := a), if_pos z] at g5
          rw [spF_s (f := 20 - (X.length + 1)) (a := a), if_pos z] at g6
          by_cases y2 : skp t 39 n a < n
          · have cc2 : nI (skp t 39 n a) < nI n := nI_lt y2 (by omega)
            rw [if_pos y2] at g5 g6
            have c6 : nI X.length < 20 := nI_lt (b := 20) (by omega) (by omega)
            have e5 : nI X.length + 1 = nI (X.length + 1) := nI_1 _
            have e6 : nI (X.length + 1) - 1 = nI X.length := nI_pred _
            have e7 : inb (nI X.length) 20 = true := inb_n (by omega) (by omega)
            have e8 : (nI X.length).toNatClampNeg = X.length := nI_clamp (by omega)
            have e9 : ms I d 2 (nI (X.length + 1)) d 2 = nI (X.length + 1) := ms_s rfl rfl
            have e10 : d + 1 + (4 + 3 * X.length) = d + 5 + 3 * X.length := by omega
            have ap : m_X4_append d I = some (d + 5 + 3 * X.length, ms I d 2 (nI (X.length + 1))) := by
              simp only [m_X4_append, c2, c6, if_true, bnd, e5, e9, e6, e7, e8, gd_t, e10]
            have io : iO (d + 5 + 3 * X.length) 9 = true := by
              have := io_row X.length (by omega)
              rcases hd with rfl | rfl
              · rw [show 62 + 5 + 3 * X.length = 67 + 3 * X.length by omega]; exact this.1
              · rw [show 127 + 5 + 3 * X.length = 132 + 3 * X.length by omega]; exact this.2
            have hT1 : TxC (ms I d 2 (nI (X.length + 1))) t n := hTI.fr fun a b q => ms_o (by omega)
            have hF1 : FlC (ms I d 2 (nI (X.length + 1))) F := g9.g fun a b q => ms_o (by omega)
            obtain ⟨I2, u1, u2, u3, u4⟩ := takeSeg_ok (g := d + 5 + 3 * X.length) hT1 ⟨rfl, y2⟩ (by omega) hF1 (by omega)
            have e3 : nI (skp t 39 n a) + 1 = nI (skp t 39 n a + 1) := nI_1 _
            have fr2 : FrP d I I2 := fun a b p q r => by rw [u4 a b p (by omega) (by omega) (by omega), ms_o (by omega)]
            refine Or.inr ⟨(nI (skp t 39 n a + 1), nI (X.length + 1), I2), n - (skp t 39 n a + 1), by omega, by simp only [m_X5_split_b9, m_X10_count, c1, Option.bind_some, cc, if_false, c5, se, cc2, if_true, ap, io, gd_t, u1, e3, e5], skp t 39 n a + 1, X ++ [sgS t (skp t 39 n a) a], F ++ sgF t (skp t 39 n a) a, by omega, rfl, rfl, by simp, by simp; omega, ?_, ?_, ?_, ⟨?_, fun i hi => ?_⟩, u3, g10.tr fr2⟩
            · rw [List.length_append]
              simp only [List.length_cons, List.length_nil, Nat.zero_add]
              rw [List.append_assoc, ← g5]
              rfl
            · rw [List.length_append]
              simp only [List.length_cons, List.length_nil, Nat.zero_add]
              rw [List.append_assoc, ← g6]
            · have := sgF_len (t := t) (e := skp t 39 n a) (a := a)
              rw [List.length_append, List.length_append]
              simp only [List.length_cons, List.length_nil]
              omega
            · show I2 d 2 = _
              rw [u4 _ _ (by omega) (by omega) (by omega) (by omega), e9, List.length_append]
              rfl
            · show SgD I2 _ _
              rw [List.length_append] at hi
              simp only [List.length_cons, List.length_nil] at hi
              by_cases o : i = X.length
              · subst o
                rw [getD_lastS]
                exact u2
              · rw [getD_appS (by omega)]
                exact (g8.2 i (by omega)).g fun a b q => by rw [u4 a b (by omega) (by omega) (by omega) (by omega), ms_o (by omega)]
          · have cc2 : ¬ nI (skp t 39 n a) < nI n := nI_nlt (by omega) (by omega)
            rw [if_neg y2] at g5 g6
            rw [List.append_nil] at g5
            exact Or.inl ⟨.inr (nI a, I), by simp only [m_X5_split_b9, m_X10_count, c1, Option.bind_some, cc, if_false, c5, se, cc2], a, F, rfl, by omega, g6, by rw [← g5]; exact g8, g9, g10⟩
      · have cc : nI n ≤ nI a := nI_le (by omega) (by omega)
        rw [spS_e z, List.append_nil] at g5
        rw [spF_e z, List.append_nil] at g6
        have hb : m_X5_split_b9 32 27 d (nI a) (nI X.length) I = some (.inr (.inl (nI a, I))) := by
          by_cases c5 : (20 : Int32) ≤ nI X.length
          · simp only [m_X5_split_b9, c5, if_true]
          · simp only [m_X5_split_b9, c5, if_false, m_X10_count, c1, Option.bind_some, cc, if_true]
        exact Or.inl ⟨.inl (nI a, I), hb, a, F, rfl, g1, by omega, by rw [if_neg z, List.append_nil]; exact g6, by rw [← g5]; exact g8, g9, g10⟩) FU n ((0 : Int32), (0 : Int32), ms J d 2 0) (by unfold FU; omega)
    ⟨0, [], [], by omega, rfl, rfl, rfl, by simp, by rw [hSS]; rfl, by rw [hFF]; rfl, by simp, ⟨ms_s rfl rfl, fun i hi => absurd hi (Nat.not_lt_zero _)⟩, hF0.g fun a b q => ms_o (by omega), fun a b p q r => ms_o (by omega)⟩
  cases b with
  | inl y =>
    obtain ⟨a, F, o1, o2, o3, o4, o5, o6, o7⟩ := f2
    have c1 : y.2 27 1 = nI n := by rw [o7 _ _ (by omega) (by omega) (by omega), h.2.1]
    by_cases z : a < n
    · have cc : ¬ nI n ≤ nI a := nI_ge z (by omega)
      rw [if_pos z] at o4
      obtain ⟨J', q1, q2, q3⟩ := FlC.add (k := 5) (p := a) o6 o3
      have q1' : m_X1_add 29 (5 : Int32) (nI a) y.2 = some J' := q1
      rw [o4] at q2
      exact ⟨J', by simp only [m_X5_split, m_X4_wipe, bnd, Option.bind_some, f1, sm, m_X10_count, c1, o1, cc, if_false, Nat.reduceSub, q1'], ⟨by rw [q3 _ _ (by omega), o5.1], fun i hi => (o5.2 i hi).g fun a b r => q3 a b (by omega)⟩, q2, fun a b p q r => by rw [q3 a b p, o7 a b p q r]⟩
    · have cc : nI n ≤ nI a := nI_le (by omega) (by omega)
      rw [if_neg z, List.append_nil] at o4
      rw [o4] at o6
      exact ⟨y.2, by simp only [m_X5_split, m_X4_wipe, bnd, Option.bind_some, f1, sm, m_X10_count, c1, o1, cc, if_true], o5, o6, o7⟩
  | inr y =>
    obtain ⟨a, F, o1, o3, o4, o5, o6, o7⟩ := f2
    obtain ⟨J', q1, q2, q3⟩ := FlC.add (k := 1) (p := a) o6 o3
    have q1' : m_X1_add 29 (1 : Int32) (nI a) y.2 = some J' := q1
    rw [o4] at q2
    exact ⟨J', by simp only [m_X5_split, m_X4_wipe, bnd, Option.bind_some, f1, sm, o1, Nat.reduceSub, q1'], ⟨by rw [q3 _ _ (by omega), o5.1], fun i hi => (o5.2 i hi).g fun a b r => q3 a b (by omega)⟩, q2, fun a b p q r => by rw [q3 a b p, o7 a b p q r]⟩
