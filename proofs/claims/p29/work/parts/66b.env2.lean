theorem isEv_ok {S : Sg} {c k : Nat} (h : isEv S c k = true) : tgC S.2.1 = c ∧ S.2.2.length = k := by
  unfold isEv at h
  simp only [Bool.and_eq_true, decide_eq_true_eq] at h
  exact ⟨h.1, h.2.1⟩
theorem env_ok {S : List Sg} (h : envF S = []) : 2 ≤ S.length ∧ isEv (hdS S) 72 1 = true ∧ isEv (lsS S) 84 2 = true := by
  unfold envF at h
  rw [List.append_eq_nil_iff] at h
  obtain ⟨h1, h2⟩ := h
  split at h1
  · split at h2
    · rename_i a b
      simp only [Bool.and_eq_true, decide_eq_true_eq] at a b
      exact ⟨b.1, a.2, b.2⟩
    · simp at h2
  · simp at h1
def nmE (S : Sg) (j : Nat) : Int32 := nmv (num (S.2.2.getD j []))
def numF (hc : Bool) (lc : Int32) (S : List Sg) : List (Nat × Nat) :=
  ((if hc = true ∧ ¬ nmE (hdS S) 0 = lc + 1 then [(10, 0)] else []) ++ (if nmE (lsS S) 0 = nI S.length then [] else [(8, (lsS S).1)])) ++ (if nmE (lsS S) 1 = nmE (hdS S) 0 then [] else [(9, (lsS S).1)])
theorem numsC {J : Mem} {d : Nat} {S : List Sg} {hc : Bool} {lc : Int32} (hd : d = 62 ∨ d = 127) (h : MsC J d S) (hl : S.length ≤ 20) (hK : ∀ s ∈ S, SgK s) (hE : envF S = []) (hF : FlC J []) :
    ∃ J', m_X5_checkNumbers 32 d (bz hc) lc J = some J' ∧ FlC J' (numF hc lc S) ∧ ∀ a b, ¬ (29 ≤ a ∧ a ≤ 31) → J' a b = J a b := by
  obtain ⟨z, eh, et⟩ := env_ok hE
  have lh := (isEv_ok eh).2
  have lt := (isEv_ok et).2
  have kh : SgK (hdS S) := hK _ (getD_memS (by omega))
  have kt : SgK (lsS S) := hK _ (getD_memS (by omega))
  have carry : ∀ I : Mem, (∀ a b, ¬ (29 ≤ a ∧ a ≤ 31) → I a b = J a b) → MsC I d S := fun I hI => ⟨by rw [hI _ _ (by omega), h.1], fun i hi => (h.2 i hi).g fun a b q => hI a b (by omega)⟩
  have io := io_sg hd (show S.length - 1 < 20 by omega)
  have at0 : m_X4_at d (0 : Int32) J = some (d + 5 + 3 * 0) := msgAt h hl (show 0 < S.length by omega)
  have hcn : m_X4_headerControl d J = some (nmE (hdS S) 0) := by
    have n0 : m_X9_numberIn (d + 5 + 3 * 0) (0 : Int32) J = some (nmE (hdS S) 0) := kh.nC (h.2 0 (by omega)) (j := 0) (by omega)
    simp only [m_X4_headerControl, at0, Option.bind_some, io_sg hd (show 0 < 20 by omega), gd_t, n0]
  -- the last check
  have c9 : ∀ (I : Mem) (F : List (Nat × Nat)), (∀ a b, ¬ (29 ≤ a ∧ a ≤ 31) → I a b = J a b) → FlC I F → F.length ≤ 2 → ∃ J', m_X5_checkNumbers_j61 32 (d + 5 + 3 * (S.length - 1)) (nmE (hdS S) 0) I = some J' ∧ FlC J' (F ++ (if nmE (lsS S) 1 = nmE (hdS S) 0 then [] else [(9, (lsS S).1)])) ∧ ∀ a b, ¬ (29 ≤ a ∧ a ≤ 31) → J' a b = J a b := fun I F hI hFI hFl => by
    have hS := (carry I hI).2 (S.length - 1) (by omega)
    have n1 : m_X9_numberIn (d + 5 + 3 * (S.length - 1)) (1 : Int32) I = some (nmE (lsS S) 1) := kt.nC hS (j := 1) (by show 1 < (lsS S).2.2.length; omega)
    have st : I (d + 5 + 3 * (S.length - 1)) 2 = nI (lsS S).1 := hS.1
    by_cases y : nmE (lsS S) 1 = nmE (hdS S) 0
    · rw [if_pos y, List.append_nil]
      exact ⟨I, by simp only [m_X5_checkNumbers_j61, n1, Option.bind_some, if_pos y], hFI, hI⟩
    · rw [if_neg y]
      obtain ⟨J', q1, q2, q3⟩ := FlC.add (k := 9) (p := (lsS S).1) hFI (by omega)
      have q1' : m_X1_add 29 (9 : Int32) (nI (lsS S).1) I = some J' := q1
      exact ⟨J', by simp only [m_X5_checkNumbers_j61, n1, Option.bind_some, if_neg y, m_X9_start, st, Nat.reduceSub, q1'], q2, fun a b r => by rw [q3 a b r, hI a b r]⟩
  have c8 : ∀ (I : Mem) (F : List (Nat × Nat)), (∀ a b, ¬ (29 ≤ a ∧ a ≤ 31) → I a b = J a b) → FlC I F → F.length ≤ 1 → ∃ J', m_X5_checkNumbers_j34 32 d (d + 5 + 3 * (S.length - 1)) (nmE (hdS S) 0) I = some J' ∧ FlC J' ((F ++ (if nmE (lsS S) 0 = nI S.length then [] else [(8, (lsS S).1)])) ++ (if nmE (lsS S) 1 = nmE (hdS S) 0 then [] else [(9, (lsS S).1)])) ∧ ∀ a b, ¬ (29 ≤ a ∧ a ≤ 31) → J' a b = J a b := fun I F hI hFI hFl => by
    have hC := carry I hI
    have hS := hC.2 (S.length - 1) (by omega)
    have n0 : m_X9_numberIn (d + 5 + 3 * (S.length - 1)) (0 : Int32) I = some (nmE (lsS S) 0) := kt.nC hS (j := 0) (by show 0 < (lsS S).2.2.length; omega)
    have st : I (d + 5 + 3 * (S.length - 1)) 2 = nI (lsS S).1 := hS.1
    have cn : m_X4_count d I = some (nI S.length) := by simp only [m_X4_count, hC.1]
    by_cases y : nmE (lsS S) 0 = nI S.length
    · rw [if_pos y, List.append_nil]
      obtain ⟨J', q1, q2, q3⟩ := c9 I F hI hFI (by omega)
      exact ⟨J', by simp only [m_X5_checkNumbers_j34, n0, Option.bind_some, cn, if_pos y, q1], q2, q3⟩
    · rw [if_neg y]
      obtain ⟨J1, p1, p2, p3⟩ := FlC.add (k := 8) (p := (lsS S).1) hFI (by omega)
      have p1' : m_X1_add 29 (8 : Int32) (nI (lsS S).1) I = some J1 := p1
      obtain ⟨J', q1, q2, q3⟩ := c9 J1 _ (fun a b r => by rw [p3 a b r, hI a b r]) p2 (by rw [List.length_append]; simp; omega)
      exact ⟨J', by simp only [m_X5_checkNumbers_j34, n0, Option.bind_some, cn, if_neg y, m_X9_start, st, Nat.reduceSub, p1', q1], q2, q3⟩
  unfold numF
  cases hc with
  | false =>
    rw [bz_f, if_neg (fun q => Bool.false_ne_true q.1)]
    obtain ⟨J', q1, q2, q3⟩ := c8 J [] (fun _ _ _ => rfl) hF (by simp)
    exact ⟨J', by simp only [m_X5_checkNumbers, msgLast hd h hl (show 0 < S.length by omega), Option.bind_some, io, gd_t, hcn, if_true, q1], q2, q3⟩
  | true =>
    have n10 : ¬ (1 : Int32) = 0 := by decide
    rw [bz_t]
    by_cases y : nmE (hdS S) 0 = lc + 1
    · rw [if_neg (fun q => q.2 y)]
      obtain ⟨J', q1, q2, q3⟩ := c8 J [] (fun _ _ _ => rfl) hF (by simp)
      exact ⟨J', by simp only [m_X5_checkNumbers, msgLast hd h hl (show 0 < S.length by omega), Option.bind_some, io, gd_t, hcn, n10, if_false, if_pos y, q1], q2, q3⟩
    · rw [if_pos ⟨rfl, y⟩]
      obtain ⟨J1, p1, p2, p3⟩ := FlC.add (k := 10) (p := 0) hF (by simp)
      have p1' : m_X1_add 29 (10 : Int32) (0 : Int32) J = some J1 := p1
      obtain ⟨J', q1, q2, q3⟩ := c8 J1 [(10, 0)] p3 p2 (by simp)
      exact ⟨J', by simp only [m_X5_checkNumbers, msgLast hd h hl (show 0 < S.length by omega), Option.bind_some, io, gd_t, hcn, n10, if_false, if_neg y, Nat.reduceSub, p1', q1], q2, q3⟩
