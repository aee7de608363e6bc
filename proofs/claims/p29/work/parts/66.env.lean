def zS : Sg := (0, [], [])
def isEv (S : Sg) (c k : Nat) : Bool := decide (tgC S.2.1 = c) && (decide (S.2.2.length = k) && S.2.2.all (fun w => (num w).isSome))
def SgK (S : Sg) : Prop := SgB S ∧ okt S.2.1 = true ∧ ∀ w ∈ S.2.2, w.length ≤ 8
theorem SgK.len {S : Sg} (h : SgK S) {j : Nat} (hj : j < S.2.2.length) : (S.2.2.getD j []).length ≤ 8 := by
  refine h.2.2 _ ?_
  rw [List.getD_eq_getElem?_getD, List.getElem?_eq_getElem hj]
  exact List.getElem_mem hj
theorem SgK.nC {J : Mem} {g j : Nat} {S : Sg} (h : SgK S) (hd : SgD J g S) (hj : j < S.2.2.length) : m_X9_numberIn g (nI j) J = some (nmv (num (S.2.2.getD j []))) :=
  numC hd.2.2 h.1.1 hj (h.1.el hj) (h.len hj)
theorem all2 {l : List (List Nat)} {f : List Nat → Bool} {k : Nat} (h : l.length = k) (hk : k = 1 ∨ k = 2) : l.all f = (f (l.getD 0 []) && (if k = 2 then f (l.getD 1 []) else true)) := by
  rcases hk with rfl | rfl
  · match l, h with
    | [a], _ => simp
  · match l, h with
    | [a, b], _ => simp
theorem isEnvC {J : Mem} {g c k : Nat} {S : Sg} (h : SgK S) (hd : SgD J g S) (hc : c < 65536) (hk : k = 1 ∨ k = 2) : m_X9_isEnvelope g (nI c) (nI k) J = some (bz (isEv S c k)) := by
  have ht := (okt_eq h.2.1).2
  have h5 := h.1.1
  unfold isEv
  by_cases a : tgC S.2.1 = c
  · have a' : nI (tgC S.2.1) = nI c := by rw [a]
    by_cases b : S.2.2.length = k
    · have b' : nI S.2.2.length = nI k := by rw [b]
      rw [decide_eq_true a, decide_eq_true b, Bool.true_and, Bool.true_and, all2 b hk]
      have n0 := h.nC hd (j := 0) (by omega)
      have n0' : m_X9_numberIn g (0 : Int32) J = some (nmv (num (S.2.2.getD 0 []))) := n0
      have v0 := nmv_n (o := num (S.2.2.getD 0 [])) (fun r => num_lt)
      have k0 : ¬ nI k ≤ 0 := nI_nle (by omega) (by omega)
      have e1 : (0 : Int32) + 1 = 1 := by decide
      have lp : loopF (fun a => m_X9_isEnvelope_b20 g (nI k) a J) FU (0 : Int32) = some (bz ((num (S.2.2.getD 0 [])).isSome && (if k = 2 then (num (S.2.2.getD 1 [])).isSome else true))) := by
        unfold FU
        cases q : (num (S.2.2.getD 0 [])).isSome with
        | false =>
          have c0 : ¬ 0 ≤ nmv (num (S.2.2.getD 0 [])) := fun h => by have := v0.2.mp h; rw [q] at this; cases this
          exact loopF_r (by simp only [m_X9_isEnvelope_b20, k0, if_false, n0', Option.bind_some, c0]; rfl)
        | true =>
          have c0 : 0 ≤ nmv (num (S.2.2.getD 0 [])) := v0.2.mpr q
          rw [loopF_l (a' := (1 : Int32)) (by simp only [m_X9_isEnvelope_b20, k0, if_false, n0', Option.bind_some, c0, if_true, e1])]
          rcases hk with rfl | rfl
          · have k1 : nI 1 ≤ (1 : Int32) := by decide
            exact loopF_r (by simp only [m_X9_isEnvelope_b20, k1, if_true]; rfl)
          · have k1 : ¬ nI 2 ≤ (1 : Int32) := by decide
            have n1 : m_X9_numberIn g (1 : Int32) J = some (nmv (num (S.2.2.getD 1 []))) := h.nC hd (j := 1) (by omega)
            have v1 := nmv_n (o := num (S.2.2.getD 1 [])) (fun r => num_lt)
            have e2 : (1 : Int32) + 1 = 2 := by decide
            cases q1 : (num (S.2.2.getD 1 [])).isSome with
            | false =>
              have c1 : ¬ 0 ≤ nmv (num (S.2.2.getD 1 [])) := fun h => by have := v1.2.mp h; rw [q1] at this; cases this
              exact loopF_r (by simp only [m_X9_isEnvelope_b20, k1, if_false, n1, Option.bind_some, c1]; rfl)
            | true =>
              have c1 : 0 ≤ nmv (num (S.2.2.getD 1 [])) := v1.2.mpr q1
              have k2 : nI 2 ≤ (2 : Int32) := by decide
              rw [loopF_l (a' := (2 : Int32)) (by simp only [m_X9_isEnvelope_b20, k1, if_false, n1, Option.bind_some, c1, if_true, e2])]
              exact loopF_r (by simp only [m_X9_isEnvelope_b20, k2, if_true]; rfl)
      simp only [m_X9_isEnvelope, hd.2.1, if_pos a', hd.2.2.1, if_pos b', lp, Option.bind_some]
    · have b' : ¬ nI S.2.2.length = nI k := fun q => b ((nI_eq (by omega) (by omega)).mp q)
      rw [decide_eq_false b, Bool.false_and, Bool.and_false]
      simp only [m_X9_isEnvelope, hd.2.1, if_pos a', hd.2.2.1, if_neg b']
      rfl
  · have a' : ¬ nI (tgC S.2.1) = nI c := fun q => a ((nI_eq (by omega) (by omega)).mp q)
    rw [decide_eq_false a, Bool.false_and]
    simp only [m_X9_isEnvelope, hd.2.1, if_neg a']
    rfl
def hdS (S : List Sg) : Sg := S.getD 0 zS
def lsS (S : List Sg) : Sg := S.getD (S.length - 1) zS
def envF (S : List Sg) : List (Nat × Nat) := (if (decide (0 < S.length) && isEv (hdS S) 72 1) = true then [] else [(6, 0)]) ++ (if (decide (2 ≤ S.length) && isEv (lsS S) 84 2) = true then [] else [(7, (lsS S).1)])
theorem getD_memS {l : List Sg} {x : Nat} (h : x < l.length) : l.getD x zS ∈ l := by
  rw [List.getD_eq_getElem?_getD, List.getElem?_eq_getElem h]
  exact List.getElem_mem h
theorem msgAt {J : Mem} {d i : Nat} {S : List Sg} (h : MsC J d S) (hl : S.length ≤ 20) (hi : i < S.length) : m_X4_at d (nI i) J = some (d + 5 + 3 * i) := by
  have e1 : ¬ nI i < 0 := nI_pos (by omega)
  have e2 : ¬ nI S.length ≤ nI i := nI_ge hi (by omega)
  have e3 : inb (nI i) 20 = true := inb_n (by omega) (by omega)
  have e4 : (nI i).toNatClampNeg = i := nI_clamp (by omega)
  have e5 : d + 1 + (4 + 3 * i) = d + 5 + 3 * i := by omega
  simp only [m_X4_at, e1, h.1, e2, if_false, e3, e4, gd_t, e5]
theorem io_sg {d i : Nat} (hd : d = 62 ∨ d = 127) (hi : i < 20) : iO (d + 5 + 3 * i) 9 = true := by
  have := io_row i hi
  rcases hd with rfl | rfl
  · rw [show 62 + 5 + 3 * i = 67 + 3 * i by omega]; exact this.1
  · rw [show 127 + 5 + 3 * i = 132 + 3 * i by omega]; exact this.2
theorem io_no {d : Nat} (hd : d = 62 ∨ d = 127) : iO (d + 2) 9 = true := by rcases hd with rfl | rfl <;> decide +kernel
theorem msgLast {J : Mem} {d : Nat} {S : List Sg} (hd : d = 62 ∨ d = 127) (h : MsC J d S) (hl : S.length ≤ 20) (h0 : 0 < S.length) : m_X4_last d J = some (d + 5 + 3 * (S.length - 1)) := by
  have e : nI S.length - 1 = nI (S.length - 1) := pk_sub (b := 1) (by omega)
  simp only [m_X4_last, h.1, e, msgAt h hl (show S.length - 1 < S.length by omega), Option.bind_some, io_sg hd (show S.length - 1 < 20 by omega), gd_t]
theorem msgNone {J : Mem} {d : Nat} {S : List Sg} (hd : d = 62 ∨ d = 127) (h : MsC J d S) (h0 : S.length = 0) : m_X4_last d J = some (d + 2) ∧ m_X4_at d 0 J = some (d + 2) := by
  have h1 := h.1
  rw [h0] at h1
  have e : nI 0 - 1 < 0 := by decide
  have e1 : ¬ (0 : Int32) < 0 := by decide
  have e2 : nI 0 ≤ 0 := by decide
  constructor
  · simp only [m_X4_last, h1, m_X4_at, e, if_true, m_X4_at_j21, Option.bind_some, io_no hd, gd_t]
  · simp only [m_X4_at, e1, if_false, h1, e2, if_true, m_X4_at_j21]
theorem envC {J : Mem} {d : Nat} {S : List Sg} (hd : d = 62 ∨ d = 127) (h : MsC J d S) (hl : S.length ≤ 20) (hK : ∀ s ∈ S, SgK s) (hN : Non J) (hF : FlC J []) :
    ∃ J', m_X5_checkEnvelope 32 d J = some J' ∧ FlC J' (envF S) ∧ ∀ a b, ¬ (29 ≤ a ∧ a ≤ 31) → J' a b = J a b := by
  have n10 : ¬ (1 : Int32) = 0 := by decide
  have hcnt : ∀ I : Mem, MsC I d S → m_X4_count d I = some (nI S.length) := fun I hI => by simp only [m_X4_count, hI.1]
  -- the trailer's check from any memory
  have tl : ∀ (I : Mem) (F : List (Nat × Nat)), MsC I d S → Non I → FlC I F → F.length ≤ 1 → ∃ J', m_X5_checkEnvelope_j24 32 d I = some J' ∧ FlC J' (F ++ (if (decide (2 ≤ S.length) && isEv (lsS S) 84 2) = true then [] else [(7, (lsS S).1)])) ∧ ∀ a b, ¬ (29 ≤ a ∧ a ≤ 31) → J' a b = I a b := fun I F hI hNI hFI hFl => by
    have bad : ∃ J', m_X5_checkEnvelope_j45 32 d I = some J' ∧ FlC J' (F ++ [(7, (lsS S).1)]) ∧ ∀ a b, ¬ (29 ≤ a ∧ a ≤ 31) → J' a b = I a b := by
      obtain ⟨J', q1, q2, q3⟩ := FlC.add (k := 7) (p := (lsS S).1) hFI (by omega)
      have q1' : m_X1_add 29 (7 : Int32) (nI (lsS S).1) I = some J' := q1
      by_cases z : 0 < S.length
      · have st : I (d + 5 + 3 * (S.length - 1)) 2 = nI (lsS S).1 := (hI.2 (S.length - 1) (by omega)).1
        exact ⟨J', by simp only [m_X5_checkEnvelope_j45, msgLast hd hI hl z, Option.bind_some, io_sg hd (show S.length - 1 < 20 by omega), gd_t, m_X9_start, st, Nat.reduceSub, q1'], q2, q3⟩
      · have h0 : S.length = 0 := by omega
        have s0 : (lsS S).1 = 0 := by
          have : S = [] := List.eq_nil_of_length_eq_zero h0
          subst this
          rfl
        have st : I (d + 2) 2 = nI (lsS S).1 := by rw [s0, (hNI (d + 2) (by omega)).1]; rfl
        exact ⟨J', by simp only [m_X5_checkEnvelope_j45, (msgNone hd hI h0).1, Option.bind_some, io_no hd, gd_t, m_X9_start, st, Nat.reduceSub, q1'], q2, q3⟩
    by_cases z : 2 ≤ S.length
    · have c2 : ¬ nI S.length < 2 := nI_nlt (b := 2) z (by omega)
      have hev : m_X9_isEnvelope (d + 5 + 3 * (S.length - 1)) 84 2 I = some (bz (isEv (lsS S) 84 2)) := isEnvC (c := 84) (k := 2) (hK _ (getD_memS (by omega))) (hI.2 (S.length - 1) (by omega)) (by omega) (Or.inr rfl)
      rw [decide_eq_true z, Bool.true_and]
      cases q : isEv (lsS S) 84 2 with
      | true =>
        rw [q, bz_t] at hev
        rw [if_pos rfl, List.append_nil]
        exact ⟨I, by simp only [m_X5_checkEnvelope_j24, hcnt I hI, Option.bind_some, c2, if_false, msgLast hd hI hl (show 0 < S.length by omega), io_sg hd (show S.length - 1 < 20 by omega), gd_t, hev, n10], hFI, fun _ _ _ => rfl⟩
      | false =>
        rw [q, bz_f] at hev
        rw [if_neg Bool.false_ne_true]
        obtain ⟨J', q1, q2, q3⟩ := bad
        exact ⟨J', by simp only [m_X5_checkEnvelope_j24, hcnt I hI, Option.bind_some, c2, if_false, msgLast hd hI hl (show 0 < S.length by omega), io_sg hd (show S.length - 1 < 20 by omega), gd_t, hev, if_true, q1], q2, q3⟩
    · have c2 : nI S.length < 2 := nI_lt (b := 2) (by omega) (by omega)
      rw [decide_eq_false z, Bool.false_and, if_neg Bool.false_ne_true]
      obtain ⟨J', q1, q2, q3⟩ := bad
      exact ⟨J', by simp only [m_X5_checkEnvelope_j24, hcnt I hI, Option.bind_some, c2, if_true, q1], q2, q3⟩
  unfold envF
  have bad : ∃ J', m_X1_add 29 6 0 J = some J' ∧ FlC J' [(6, 0)] ∧ ∀ a b, ¬ (29 ≤ a ∧ a ≤ 31) → J' a b = J a b := FlC.add (k := 6) (p := 0) hF (by simp)
  have carry : ∀ I : Mem, (∀ a b, ¬ (29 ≤ a ∧ a ≤ 31) → I a b = J a b) → MsC I d S ∧ Non I := fun I hI => ⟨⟨by rw [hI _ _ (by omega), h.1], fun i hi => (h.2 i hi).g fun a b q => hI a b (by omega)⟩, hN.congr fun a b q => hI a b (by unfold DNon at q; omega)⟩
  by_cases z : 0 < S.length
  · have at0 : m_X4_at d (0 : Int32) J = some (d + 5 + 3 * 0) := msgAt h hl z
    have hev : m_X9_isEnvelope (d + 5 + 3 * 0) 72 1 J = some (bz (isEv (hdS S) 72 1)) := isEnvC (c := 72) (k := 1) (hK _ (getD_memS z)) (h.2 0 z) (by omega) (Or.inl rfl)
    have io := io_sg hd (show 0 < 20 by omega)
    rw [decide_eq_true z, Bool.true_and]
    cases q : isEv (hdS S) 72 1 with
    | true =>
      rw [q, bz_t] at hev
      rw [if_pos rfl]
      obtain ⟨J', q1, q2, q3⟩ := tl J [] h hN hF (by simp)
      exact ⟨J', by simp only [m_X5_checkEnvelope, at0, Option.bind_some, io, gd_t, hev, n10, if_false, q1], q2, q3⟩
    | false =>
      rw [q, bz_f] at hev
      rw [if_neg Bool.false_ne_true]
      obtain ⟨J1, p1, p2, p3⟩ := bad
      obtain ⟨J', q1, q2, q3⟩ := tl J1 [(6, 0)] (carry J1 p3).1 (carry J1 p3).2 p2 (by simp)
      exact ⟨J', by simp only [m_X5_checkEnvelope, at0, Option.bind_some, io, gd_t, hev, if_true, Nat.reduceSub, p1, q1], q2, fun a b r => by rw [q3 a b r, p3 a b r]⟩
  · have h0 : S.length = 0 := by omega
    rw [decide_eq_false z, Bool.false_and, if_neg Bool.false_ne_true]
    have hev : m_X9_isEnvelope (d + 2) 72 1 J = some 0 := by
      have n3 := (hN (d + 2) (by omega)).2.1
      have c : ¬ (32 : Int32) = 72 := by decide
      simp only [m_X9_isEnvelope, n3, c, if_false]
    obtain ⟨J1, p1, p2, p3⟩ := bad
    obtain ⟨J', q1, q2, q3⟩ := tl J1 [(6, 0)] (carry J1 p3).1 (carry J1 p3).2 p2 (by simp)
    exact ⟨J', by simp only [m_X5_checkEnvelope, (msgNone hd h h0).2, Option.bind_some, io_no hd, gd_t, hev, if_true, Nat.reduceSub, p1, q1], q2, fun a b r => by rw [q3 a b r, p3 a b r]⟩
