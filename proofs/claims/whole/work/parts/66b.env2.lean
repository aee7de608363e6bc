/-! reading: the envelope and the numbers, the reference; the numbers, the class -/
def FrQ (K K' : Mem) : Prop := ∀ a b, ¬ (a = 196 ∧ b = 16) → a ≠ 207 → a ≠ 208 → K' a b = K a b
theorem envM {K : Mem} {S : List Sg} (h : MsM K S) (hl : S.length ≤ 20) (hK : ∀ s ∈ S, SgK s) (hF : FlM K []) :
    ∃ K', m_X12_envelope 196 K = some K' ∧ FlM K' (envF S) ∧ FrQ K K' := by
  have tl : ∀ (I : Mem) (F : List (Nat × Nat)), FrQ K I → FlM I F → F.length ≤ 1 → ∃ K', m_X12_envelope_j52 196 (nI S.length - 1) I = some K' ∧ FlM K' (F ++ (if (decide (2 ≤ S.length) && isEv (lsS S) 84 2) = true then [] else [(7, (lsS S).1)])) ∧ FrQ K K' := fun I F hI hFI hFl => by
    have c22 : I 196 22 = nI S.length := by rw [hI _ _ (by omega) (by omega) (by omega), h.1]
    have bad : ∃ K', m_X12_envelope_j101 196 (nI S.length - 1) I = some K' ∧ FlM K' (F ++ [(7, (lsS S).1)]) ∧ FrQ K K' := by
      obtain ⟨K', q1, q2, q3⟩ := FlM.add (k := 7) (p := (lsS S).1) hFI (by omega)
      have q1' : m_X12_fault 196 (7 : Int32) (nI (lsS S).1) I = some K' := q1
      have fr : FrQ K K' := fun a b p q r => by rw [q3 a b p q r, hI a b p q r]
      by_cases z : S.length = 0
      · have s0 : (lsS S).1 = 0 := by
          have : S = [] := List.eq_nil_of_length_eq_zero z
          subst this
          rfl
        have z' : nI S.length = 0 := by rw [z]; rfl
        rw [s0] at q1'
        have q1'' : m_X12_fault 196 (7 : Int32) (0 : Int32) I = some K' := q1'
        exact ⟨K', by simp only [m_X12_envelope_j101, c22, if_pos z', m_X12_envelope_j121, q1'', Option.bind_some], q2, fr⟩
      · have z' : ¬ nI S.length = 0 := nI_ne0 (by omega) (by omega)
        have e : nI S.length - 1 = nI (S.length - 1) := pk_sub (b := 1) (by omega)
        have w8 : inb (nI (S.length - 1)) 20 = true := inb_n (by omega) (by omega)
        have w9 : (nI (S.length - 1)).toNatClampNeg = S.length - 1 := nI_clamp (by omega)
        have st : I 209 (S.length - 1) = nI (lsS S).1 := by rw [hI _ _ (by omega) (by omega) (by omega)]; exact (h.2 (S.length - 1) (by omega)).1
        exact ⟨K', by simp only [m_X12_envelope_j101, c22, if_neg z', e, w8, w9, gd_t, Nat.reduceAdd, st, m_X12_envelope_j121, q1', Option.bind_some], q2, fr⟩
    by_cases z : 2 ≤ S.length
    · have c2 : ¬ nI S.length < 2 := nI_nlt (b := 2) z (by omega)
      have e : nI S.length - 1 = nI (S.length - 1) := pk_sub (b := 1) (by omega)
      have w8 : inb (nI (S.length - 1)) 20 = true := inb_n (by omega) (by omega)
      have w9 : (nI (S.length - 1)).toNatClampNeg = S.length - 1 := nI_clamp (by omega)
      have hk : SgK (lsS S) := hK _ (getD_memS (by omega))
      have hm : SgM K (S.length - 1) (lsS S) := h.2 (S.length - 1) (by omega)
      have hmI : SgM I (S.length - 1) (lsS S) := by
        obtain ⟨a1, a2, a3, a4⟩ := hm
        exact ⟨by rw [hI _ _ (by omega) (by omega) (by omega), a1], by rw [hI _ _ (by omega) (by omega) (by omega), a2], by rw [hI _ _ (by omega) (by omega) (by omega), a3], fun j hj => ⟨by rw [hI _ _ (by omega) (by omega) (by omega), (a4 j hj).1], fun x hx h8 => by rw [hI _ _ (by omega) (by omega) (by omega)]; exact (a4 j hj).2 x hx h8⟩⟩
      have ht := okt_eq hk.2.1
      have h5 := hk.1.1
      rw [decide_eq_true z, Bool.true_and]
      obtain ⟨K', q1, q2, q3⟩ := bad
      rw [e] at q1 ⊢
      unfold isEv
      by_cases a : tgC (lsS S).2.1 = 84
      · have a' : nI (tgM (lsS S).2.1) = 84 := by rw [← ht.1, a]; rfl
        by_cases b : (lsS S).2.2.length = 2
        · have b' : nI (lsS S).2.2.length = 2 := by rw [b]; rfl
          have n0 : m_X12_numberIn 196 (nI (S.length - 1)) (0 : Int32) I = some (nmv (num ((lsS S).2.2.getD 0 []))) := hk.nM hmI (by omega) (j := 0) (by omega)
          have n1 : m_X12_numberIn 196 (nI (S.length - 1)) (1 : Int32) I = some (nmv (num ((lsS S).2.2.getD 1 []))) := hk.nM hmI (by omega) (j := 1) (by omega)
          have v0 := nmv_n (o := num ((lsS S).2.2.getD 0 [])) (fun r => num_lt)
          have v1 := nmv_n (o := num ((lsS S).2.2.getD 1 [])) (fun r => num_lt)
          rw [decide_eq_true a, decide_eq_true b, Bool.true_and, Bool.true_and, all2 b (Or.inr rfl), if_pos rfl]
          cases y0 : (num ((lsS S).2.2.getD 0 [])).isSome with
          | false =>
            have c0 := v0.1.mpr y0
            rw [Bool.false_and, if_neg Bool.false_ne_true]
            exact ⟨K', by simp only [m_X12_envelope_j52, c22, c2, if_false, w8, w9, gd_t, Nat.reduceAdd, hmI.2.1, if_pos a', hmI.2.2.1, if_pos b', n0, Option.bind_some, if_pos c0, q1], q2, q3⟩
          | true =>
            have c0 : ¬ nmv (num ((lsS S).2.2.getD 0 [])) = -1 := fun q => by have := v0.1.mp q; rw [y0] at this; cases this
            cases y1 : (num ((lsS S).2.2.getD 1 [])).isSome with
            | false =>
              have c1 := v1.1.mpr y1
              rw [Bool.true_and, if_neg Bool.false_ne_true]
              exact ⟨K', by simp only [m_X12_envelope_j52, c22, c2, if_false, w8, w9, gd_t, Nat.reduceAdd, hmI.2.1, if_pos a', hmI.2.2.1, if_pos b', n0, Option.bind_some, if_neg c0, n1, if_pos c1, q1], q2, q3⟩
            | true =>
              have c1 : ¬ nmv (num ((lsS S).2.2.getD 1 [])) = -1 := fun q => by have := v1.1.mp q; rw [y1] at this; cases this
              rw [Bool.true_and, if_pos rfl, List.append_nil]
              exact ⟨I, by simp only [m_X12_envelope_j52, c22, c2, if_false, w8, w9, gd_t, Nat.reduceAdd, hmI.2.1, if_pos a', hmI.2.2.1, if_pos b', n0, Option.bind_some, if_neg c0, n1, if_neg c1], hFI, hI⟩
        · have b' : ¬ nI (lsS S).2.2.length = 2 := fun q => b ((nI_eq (b := 2) (by omega) (by omega)).mp q)
          rw [decide_eq_false b, Bool.false_and, Bool.and_false, if_neg Bool.false_ne_true]
          exact ⟨K', by simp only [m_X12_envelope_j52, c22, c2, if_false, w8, w9, gd_t, Nat.reduceAdd, hmI.2.1, if_pos a', hmI.2.2.1, if_neg b', q1], q2, q3⟩
      · have a' : ¬ nI (tgM (lsS S).2.1) = 84 := fun q => a (by rw [ht.1]; exact (nI_eq (b := 84) (by omega) (by omega)).mp q)
        rw [decide_eq_false a, Bool.false_and, if_neg Bool.false_ne_true]
        exact ⟨K', by simp only [m_X12_envelope_j52, c22, c2, if_false, w8, w9, gd_t, Nat.reduceAdd, hmI.2.1, if_neg a', q1], q2, q3⟩
    · have c2 : nI S.length < 2 := nI_lt (b := 2) (by omega) (by omega)
      rw [decide_eq_false z, Bool.false_and, if_neg Bool.false_ne_true]
      obtain ⟨K', q1, q2, q3⟩ := bad
      exact ⟨K', by simp only [m_X12_envelope_j52, c22, c2, if_true, q1], q2, q3⟩
  unfold envF
  have bad : ∃ K', m_X12_envelope_j45 196 (nI S.length - 1) K = some K' ∧ FlM K' ([(6, 0)] ++ (if (decide (2 ≤ S.length) && isEv (lsS S) 84 2) = true then [] else [(7, (lsS S).1)])) ∧ FrQ K K' := by
    obtain ⟨K1, p1, p2, p3⟩ := FlM.add (k := 6) (p := 0) hF (by simp)
    have p1' : m_X12_fault 196 (6 : Int32) (0 : Int32) K = some K1 := p1
    obtain ⟨K', q1, q2, q3⟩ := tl K1 [(6, 0)] p3 p2 (by simp)
    exact ⟨K', by simp only [m_X12_envelope_j45, p1', Option.bind_some, q1], q2, q3⟩
  have c22 : K 196 22 = nI S.length := h.1
  by_cases z : S.length = 0
  · have z' : nI S.length = 0 := by rw [z]; rfl
    obtain ⟨K', q1, q2, q3⟩ := bad
    rw [decide_eq_false (show ¬ 0 < S.length by omega), Bool.false_and, if_neg Bool.false_ne_true]
    exact ⟨K', by simp only [m_X12_envelope, c22, if_pos z', q1], q2, q3⟩
  · have z' : ¬ nI S.length = 0 := nI_ne0 (by omega) (by omega)
    have w8 : inb 0 20 = true := by decide
    have w9 : (0 : Int32).toNatClampNeg = 0 := by decide
    have hk : SgK (hdS S) := hK _ (getD_memS (by omega))
    have hm : SgM K 0 (hdS S) := h.2 0 (by omega)
    have ht := okt_eq hk.2.1
    have h5 := hk.1.1
    rw [decide_eq_true (show 0 < S.length by omega), Bool.true_and]
    obtain ⟨K', q1, q2, q3⟩ := bad
    unfold isEv
    by_cases a : tgC (hdS S).2.1 = 72
    · have a' : nI (tgM (hdS S).2.1) = 72 := by rw [← ht.1, a]; rfl
      by_cases b : (hdS S).2.2.length = 1
      · have b' : nI (hdS S).2.2.length = 1 := by rw [b]; rfl
        have n0 : m_X12_numberIn 196 (0 : Int32) (0 : Int32) K = some (nmv (num ((hdS S).2.2.getD 0 []))) := hk.nM (i := 0) hm (by omega) (j := 0) (by omega)
        have v0 := nmv_n (o := num ((hdS S).2.2.getD 0 [])) (fun r => num_lt)
        rw [decide_eq_true a, decide_eq_true b, Bool.true_and, Bool.true_and, all2 b (Or.inl rfl), if_neg (show ¬ 1 = 2 by omega), Bool.and_true]
        cases y0 : (num ((hdS S).2.2.getD 0 [])).isSome with
        | false =>
          have c0 := v0.1.mpr y0
          rw [if_neg Bool.false_ne_true]
          exact ⟨K', by simp only [m_X12_envelope, c22, if_neg z', w8, w9, gd_t, Nat.reduceAdd, hm.2.1, if_pos a', hm.2.2.1, if_pos b', n0, Option.bind_some, if_pos c0, q1], q2, q3⟩
        | true =>
          have c0 : ¬ nmv (num ((hdS S).2.2.getD 0 [])) = -1 := fun q => by have := v0.1.mp q; rw [y0] at this; cases this
          rw [if_pos rfl]
          obtain ⟨K2, u1, u2, u3⟩ := tl K [] (fun _ _ _ _ _ => rfl) hF (by simp)
          exact ⟨K2, by simp only [m_X12_envelope, c22, if_neg z', w8, w9, gd_t, Nat.reduceAdd, hm.2.1, if_pos a', hm.2.2.1, if_pos b', n0, Option.bind_some, if_neg c0, u1], u2, u3⟩
      · have b' : ¬ nI (hdS S).2.2.length = 1 := fun q => b ((nI_eq (b := 1) (by omega) (by omega)).mp q)
        rw [decide_eq_false b, Bool.false_and, Bool.and_false, if_neg Bool.false_ne_true]
        exact ⟨K', by simp only [m_X12_envelope, c22, if_neg z', w8, w9, gd_t, Nat.reduceAdd, hm.2.1, if_pos a', hm.2.2.1, if_neg b', q1], q2, q3⟩
    · have a' : ¬ nI (tgM (hdS S).2.1) = 72 := fun q => a (by rw [ht.1]; exact (nI_eq (b := 72) (by omega) (by omega)).mp q)
      rw [decide_eq_false a, Bool.false_and, if_neg Bool.false_ne_true]
      exact ⟨K', by simp only [m_X12_envelope, c22, if_neg z', w8, w9, gd_t, Nat.reduceAdd, hm.2.1, if_neg a', q1], q2, q3⟩
theorem isEv_ok {S : Sg} {c k : Nat} (h : isEv S c k = true) : tgC S.2.1 = c ∧ S.2.2.length = k := by
  unfold isEv at h
  simp only [Bool.and_eq_true, decide_eq_true_eq] at h
  exact ⟨h.1, h.2.1⟩
theorem env_ok {S : List Sg} (h : envF S = []) : 2 ≤ S.length ∧ isEv (hdS S) 72 1 = true ∧ isEv (lsS S) 84 2 = true := by
  unfold envF at h
  rw [List.append_eq_nil_iff] at h
  obtain ⟨h1, h2⟩ := h
  split at h1
  · split at h2
    · rename_i a b
      simp only [Bool.and_eq_true, decide_eq_true_eq] at a b
      exact ⟨b.1, a.2, b.2⟩
    · simp at h2
  · simp at h1
def nmE (S : Sg) (j : Nat) : Int32 := nmv (num (S.2.2.getD j []))
def numF (hc : Bool) (lc : Int32) (S : List Sg) : List (Nat × Nat) :=
  ((if hc = true ∧ ¬ nmE (hdS S) 0 = lc + 1 then [(10, 0)] else []) ++ (if nmE (lsS S) 0 = nI S.length then [] else [(8, (lsS S).1)])) ++ (if nmE (lsS S) 1 = nmE (hdS S) 0 then [] else [(9, (lsS S).1)])
theorem numsC {J : Mem} {d : Nat} {S : List Sg} {hc : Bool} {lc : Int32} (hd : d = 62 ∨ d = 127) (h : MsC J d S) (hl : S.length ≤ 20) (hK : ∀ s ∈ S, SgK s) (hE : envF S = []) (hF : FlC J []) :
    ∃ J', m_X5_checkNumbers 32 d (bz hc) lc J = some J' ∧ FlC J' (numF hc lc S) ∧ ∀ a b, ¬ (29 ≤ a ∧ a ≤ 31) → J' a b = J a b := by
  obtain ⟨z, eh, et⟩ := env_ok hE
  have lh := (isEv_ok eh).2
  have lt := (isEv_ok et).2
  have kh : SgK (hdS S) := hK _ (getD_memS (by omega))
  have kt : SgK (lsS S) := hK _ (getD_memS (by omega))
  have carry : ∀ I : Mem, (∀ a b, ¬ (29 ≤ a ∧ a ≤ 31) → I a b = J a b) → MsC I d S := fun I hI => ⟨by rw [hI _ _ (by omega), h.1], fun i hi => (h.2 i hi).g fun a b q => hI a b (by omega)⟩
  have io := io_sg hd (show S.length - 1 < 20 by omega)
  have at0 : m_X4_at d (0 : Int32) J = some (d + 5 + 3 * 0) := msgAt h hl (show 0 < S.length by omega)
  have hcn : m_X4_headerControl d J = some (nmE (hdS S) 0) := by
    have n0 : m_X9_numberIn (d + 5 + 3 * 0) (0 : Int32) J = some (nmE (hdS S) 0) := kh.nC (h.2 0 (by omega)) (j := 0) (by omega)
    simp only [m_X4_headerControl, at0, Option.bind_some, io_sg hd (show 0 < 20 by omega), gd_t, n0]
  -- the last check
  have c9 : ∀ (I : Mem) (F : List (Nat × Nat)), (∀ a b, ¬ (29 ≤ a ∧ a ≤ 31) → I a b = J a b) → FlC I F → F.length ≤ 2 → ∃ J', m_X5_checkNumbers_j61 32 (d + 5 + 3 * (S.length - 1)) (nmE (hdS S) 0) I = some J' ∧ FlC J' (F ++ (if nmE (lsS S) 1 = nmE (hdS S) 0 then [] else [(9, (lsS S).1)])) ∧ ∀ a b, ¬ (29 ≤ a ∧ a ≤ 31) → J' a b = J a b := fun I F hI hFI hFl => by
    have hS := (carry I hI).2 (S.length - 1) (by omega)
    have n1 : m_X9_numberIn (d + 5 + 3 * (S.length - 1)) (1 : Int32) I = some (nmE (lsS S) 1) := kt.nC hS (j := 1) (by show 1 < (lsS S).2.2.length; omega)
    have st : I (d + 5 + 3 * (S.length - 1)) 2 = nI (lsS S).1 := hS.1
    by_cases y : nmE (lsS S) 1 = nmE (hdS S) 0
    · rw [if_pos y, List.append_nil]
      exact ⟨I, by simp only [m_X5_checkNumbers_j61, n1, Option.bind_some, if_pos y], hFI, hI⟩
    · rw [if_neg y]
      obtain ⟨J', q1, q2, q3⟩ := FlC.add (k := 9) (p := (lsS S).1) hFI (by omega)
      have q1' : m_X1_add 29 (9 : Int32) (nI (lsS S).1) I = some J' := q1
      exact ⟨J', by simp only [m_X5_checkNumbers_j61, n1, Option.bind_some, if_neg y, m_X9_start, st, Nat.reduceSub, q1'], q2, fun a b r => by rw [q3 a b r, hI a b r]⟩
  have c8 : ∀ (I : Mem) (F : List (Nat × Nat)), (∀ a b, ¬ (29 ≤ a ∧ a ≤ 31) → I a b = J a b) → FlC I F → F.length ≤ 1 → ∃ J', m_X5_checkNumbers_j34 32 d (d + 5 + 3 * (S.length - 1)) (nmE (hdS S) 0) I = some J' ∧ FlC J' ((F ++ (if nmE (lsS S) 0 = nI S.length then [] else [(8, (lsS S).1)])) ++ (if nmE (lsS S) 1 = nmE (hdS S) 0 then [] else [(9, (lsS S).1)])) ∧ ∀ a b, ¬ (29 ≤ a ∧ a ≤ 31) → J' a b = J a b := fun I F hI hFI hFl => by
    have hC := carry I hI
    have hS := hC.2 (S.length - 1) (by omega)
    have n0 : m_X9_numberIn (d + 5 + 3 * (S.length - 1)) (0 : Int32) I = some (nmE (lsS S) 0) := kt.nC hS (j := 0) (by show 0 < (lsS S).2.2.length; omega)
    have st : I (d + 5 + 3 * (S.length - 1)) 2 = nI (lsS S).1 := hS.1
    have cn : m_X4_count d I = some (nI S.length) := by simp only [m_X4_count, hC.1]
    by_cases y : nmE (lsS S) 0 = nI S.length
    · rw [if_pos y, List.append_nil]
      obtain ⟨J', q1, q2, q3⟩ := c9 I F hI hFI (by omega)
      exact ⟨J', by simp only [m_X5_checkNumbers_j34, n0, Option.bind_some, cn, if_pos y, q1], q2, q3⟩
    · rw [if_neg y]
      obtain ⟨J1, p1, p2, p3⟩ := FlC.add (k := 8) (p := (lsS S).1) hFI (by omega)
      have p1' : m_X1_add 29 (8 : Int32) (nI (lsS S).1) I = some J1 := p1
      obtain ⟨J', q1, q2, q3⟩ := c9 J1 _ (fun a b r => by rw [p3 a b r, hI a b r]) p2 (by rw [List.length_append]; simp; omega)
      exact ⟨J', by simp only [m_X5_checkNumbers_j34, n0, Option.bind_some, cn, if_neg y, m_X9_start, st, Nat.reduceSub, p1', q1], q2, q3⟩
  unfold numF
  cases hc with
  | false =>
    rw [bz_f, if_neg (fun q => Bool.false_ne_true q.1)]
    obtain ⟨J', q1, q2, q3⟩ := c8 J [] (fun _ _ _ => rfl) hF (by simp)
    exact ⟨J', by simp only [m_X5_checkNumbers, msgLast hd h hl (show 0 < S.length by omega), Option.bind_some, io, gd_t, hcn, if_true, q1], q2, q3⟩
  | true =>
    have n10 : ¬ (1 : Int32) = 0 := by decide
    rw [bz_t]
    by_cases y : nmE (hdS S) 0 = lc + 1
    · rw [if_neg (fun q => q.2 y)]
      obtain ⟨J', q1, q2, q3⟩ := c8 J [] (fun _ _ _ => rfl) hF (by simp)
      exact ⟨J', by simp only [m_X5_checkNumbers, msgLast hd h hl (show 0 < S.length by omega), Option.bind_some, io, gd_t, hcn, n10, if_false, if_pos y, q1], q2, q3⟩
    · rw [if_pos ⟨rfl, y⟩]
      obtain ⟨J1, p1, p2, p3⟩ := FlC.add (k := 10) (p := 0) hF (by simp)
      have p1' : m_X1_add 29 (10 : Int32) (0 : Int32) J = some J1 := p1
      obtain ⟨J', q1, q2, q3⟩ := c8 J1 [(10, 0)] p3 p2 (by simp)
      exact ⟨J', by simp only [m_X5_checkNumbers, msgLast hd h hl (show 0 < S.length by omega), Option.bind_some, io, gd_t, hcn, n10, if_false, if_neg y, Nat.reduceSub, p1', q1], q2, q3⟩
theorem numsM {K : Mem} {S : List Sg} {hc : Bool} {lc : Int32} (h : MsM K S) (hl : S.length ≤ 20) (hK : ∀ s ∈ S, SgK s) (hE : envF S = []) (hF : FlM K []) (h24 : K 196 24 = bz hc) (h25 : hc = true → K 196 25 = lc) :
    ∃ K', m_X12_numbers 196 K = some K' ∧ FlM K' (numF hc lc S) ∧ FrQ K K' := by
  obtain ⟨z, eh, et⟩ := env_ok hE
  have lh := (isEv_ok eh).2
  have lt := (isEv_ok et).2
  have kh : SgK (hdS S) := hK _ (getD_memS (by omega))
  have kt : SgK (lsS S) := hK _ (getD_memS (by omega))
  have e : nI S.length - 1 = nI (S.length - 1) := pk_sub (b := 1) (by omega)
  have w8 : inb (nI (S.length - 1)) 20 = true := inb_n (by omega) (by omega)
  have w9 : (nI (S.length - 1)).toNatClampNeg = S.length - 1 := nI_clamp (by omega)
  have carry : ∀ I : Mem, FrQ K I → MsM I S := fun I hI => h.g fun a b q => hI a b (by omega) (by omega) (by omega)
  have hn : ∀ I : Mem, FrQ K I → m_X12_numberIn 196 (0 : Int32) (0 : Int32) I = some (nmE (hdS S) 0) := fun I hI => kh.nM (i := 0) ((carry I hI).2 0 (by omega)) (by omega) (j := 0) (by omega)
  have c9 : ∀ (I : Mem) (F : List (Nat × Nat)), FrQ K I → FlM I F → F.length ≤ 2 → ∃ K', m_X12_numbers_j61 196 (nI (S.length - 1)) I = some K' ∧ FlM K' (F ++ (if nmE (lsS S) 1 = nmE (hdS S) 0 then [] else [(9, (lsS S).1)])) ∧ FrQ K K' := fun I F hI hFI hFl => by
    have hS := (carry I hI).2 (S.length - 1) (by omega)
    have n1 : m_X12_numberIn 196 (nI (S.length - 1)) (1 : Int32) I = some (nmE (lsS S) 1) := kt.nM hS (by omega) (j := 1) (by show 1 < (lsS S).2.2.length; omega)
    have st : I 209 (S.length - 1) = nI (lsS S).1 := hS.1
    by_cases y : nmE (lsS S) 1 = nmE (hdS S) 0
    · rw [if_pos y, List.append_nil]
      exact ⟨I, by simp only [m_X12_numbers_j61, n1, hn I hI, Option.bind_some, if_pos y], hFI, hI⟩
    · rw [if_neg y]
      obtain ⟨J', q1, q2, q3⟩ := FlM.add (k := 9) (p := (lsS S).1) hFI (by omega)
      have q1' : m_X12_fault 196 (9 : Int32) (nI (lsS S).1) I = some J' := q1
      exact ⟨J', by simp only [m_X12_numbers_j61, n1, hn I hI, Option.bind_some, if_neg y, w8, w9, gd_t, Nat.reduceAdd, st, q1'], q2, fun a b p q r => by rw [q3 a b p q r, hI a b p q r]⟩
  have c8 : ∀ (I : Mem) (F : List (Nat × Nat)), FrQ K I → FlM I F → F.length ≤ 1 → ∃ K', m_X12_numbers_j36 196 (nI (S.length - 1)) I = some K' ∧ FlM K' ((F ++ (if nmE (lsS S) 0 = nI S.length then [] else [(8, (lsS S).1)])) ++ (if nmE (lsS S) 1 = nmE (hdS S) 0 then [] else [(9, (lsS S).1)])) ∧ FrQ K K' := fun I F hI hFI hFl => by
    have hC := carry I hI
    have hS := hC.2 (S.length - 1) (by omega)
    have n0 : m_X12_numberIn 196 (nI (S.length - 1)) (0 : Int32) I = some (nmE (lsS S) 0) := kt.nM hS (by omega) (j := 0) (by show 0 < (lsS S).2.2.length; omega)
    have st : I 209 (S.length - 1) = nI (lsS S).1 := hS.1
    by_cases y : nmE (lsS S) 0 = nI S.length
    · have y' : nmE (lsS S) 0 = I 196 22 := by rw [y, hC.1]
      rw [if_pos y, List.append_nil]
      obtain ⟨J', q1, q2, q3⟩ := c9 I F hI hFI (by omega)
      exact ⟨J', by simp only [m_X12_numbers_j36, n0, Option.bind_some, if_pos y', q1], q2, q3⟩
    · have y' : ¬ nmE (lsS S) 0 = I 196 22 := by rw [hC.1]; exact y
      rw [if_neg y]
      obtain ⟨J1, p1, p2, p3⟩ := FlM.add (k := 8) (p := (lsS S).1) hFI (by omega)
      have p1' : m_X12_fault 196 (8 : Int32) (nI (lsS S).1) I = some J1 := p1
      obtain ⟨J', q1, q2, q3⟩ := c9 J1 _ (fun a b p q r => by rw [p3 a b p q r, hI a b p q r]) p2 (by rw [List.length_append]; simp; omega)
      exact ⟨J', by simp only [m_X12_numbers_j36, n0, Option.bind_some, if_neg y', w8, w9, gd_t, Nat.reduceAdd, st, p1', q1], q2, q3⟩
  unfold numF
  have c22 : K 196 22 = nI S.length := h.1
  cases hc with
  | false =>
    rw [bz_f] at h24
    rw [if_neg (fun q => Bool.false_ne_true q.1)]
    obtain ⟨J', q1, q2, q3⟩ := c8 K [] (fun _ _ _ _ _ => rfl) hF (by simp)
    exact ⟨J', by simp only [m_X12_numbers, h24, if_true, c22, e, q1], q2, q3⟩
  | true =>
    have n10 : ¬ (1 : Int32) = 0 := by decide
    rw [bz_t] at h24
    have h25 := h25 rfl
    by_cases y : nmE (hdS S) 0 = lc + 1
    · rw [if_neg (fun q => q.2 y)]
      obtain ⟨J', q1, q2, q3⟩ := c8 K [] (fun _ _ _ _ _ => rfl) hF (by simp)
      exact ⟨J', by simp only [m_X12_numbers, h24, n10, if_false, hn K (fun _ _ _ _ _ => rfl), Option.bind_some, h25, if_pos y, c22, e, q1], q2, q3⟩
    · rw [if_pos ⟨rfl, y⟩]
      obtain ⟨J1, p1, p2, p3⟩ := FlM.add (k := 10) (p := 0) hF (by simp)
      have p1' : m_X12_fault 196 (10 : Int32) (0 : Int32) K = some J1 := p1
      obtain ⟨J', q1, q2, q3⟩ := c8 J1 [(10, 0)] p3 p2 (by simp)
      exact ⟨J', by simp only [m_X12_numbers, h24, n10, if_false, hn K (fun _ _ _ _ _ => rfl), Option.bind_some, h25, if_neg y, c22, e, p1', q1], q2, q3⟩
