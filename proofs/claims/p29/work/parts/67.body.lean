def gS (S : List Sg) (p : Nat) : Nat := tgC (S.getD (p + 1) zS).2.1
def FrB (d n : Nat) (J J' : Mem) : Prop := ∀ a b, ¬ (29 ≤ a ∧ a ≤ 31) → ¬ (34 ≤ a ∧ a ≤ 37) → ¬ (a = 33 ∧ b = 5) → ¬ ((b = 5 ∨ b = 6) ∧ ∃ s, s < n ∧ a = d + 8 + 3 * s) → J' a b = J a b
theorem FrD.b {d n : Nat} {J J' : Mem} (h : FrD d n J J') : FrB d n J J' := fun a b _ p q r => h a b p q r
theorem MsC.d {J J' : Mem} {d n : Nat} {S : List Sg} (hd : d = 62 ∨ d = 127) (h : MsC J d S) (hf : FrD d n J J') : MsC J' d S := by
  refine ⟨by rw [hf _ _ (by omega) (by omega) (by omega), h.1], fun i hi => ?_⟩
  obtain ⟨h1, h2, h3⟩ := h.2 i hi
  refine ⟨by rw [hf _ _ (by omega) (by omega) (by omega), h1], by rw [hf _ _ (by omega) (by omega) (by omega), h2], h3.g fun a b q => hf a b (by omega) (by omega) ?_⟩
  rintro ⟨u, s, _, e⟩
  omega
theorem bodC {J : Mem} {T : Nat → Nat → Nat} {ni ne d n : Nat} {eo : Nat → Nat} {S : List Sg} (hC : SchC J T ni ne false) (hS : SF T ni ne) (hE : EO T ne eo) (hd : d = 62 ∨ d = 127) (h : MsC J d S) (hl : S.length = n + 2) (hn : n ≤ 18) (hK : ∀ s ∈ S, SgK s) (hF : FlC J []) :
    ∃ J', m_X5_checkBody 32 d J = some J' ∧ FrB d n J J' ∧ ((hop T (gS S) n ni ne eo n 1000 = true ∧ FlC J' [] ∧ AS J' d n (pth T (gS S) n ni ne eo)) ∨
      (¬ hop T (gS S) n ni ne eo n 1000 = true ∧ ∃ c, c ≤ n ∧ (∀ c', c' < c → rcd T (gS S) n ne (c' + 1)) ∧ (c < n → ¬ rcd T (gS S) n ne (c + 1)) ∧ FlC J' [(if c < n then 11 else 12, (S.getD (c + 1) zS).1)])) := by
  have hm : ∃ d', (d = 62 ∧ d' = 127) ∨ (d = 127 ∧ d' = 62) := by
    rcases hd with rfl | rfl
    · exact ⟨127, Or.inl ⟨rfl, rfl⟩⟩
    · exact ⟨62, Or.inr ⟨rfl, rfl⟩⟩
  have hB : MB J T ni ne d n (gS S) := by
    refine ⟨hC, hS, hm, hn, by rw [h.1, hl], fun s hs => ?_⟩
    have hk := hK _ (getD_memS (x := s + 1) (by omega))
    have ht := (okt_eq hk.2.1).2
    have := (h.2 (s + 1) (by omega)).2.1
    rw [show d + 5 + 3 * (s + 1) = d + 8 + 3 * s by omega] at this
    exact ⟨this, by unfold gS; omega⟩
  obtain ⟨r, J1, p1, p2, p3, p4, p5⟩ := CD hB
  have hB1 := hB.fr p5
  rcases p2 with ⟨r1, q⟩ | ⟨r0, q⟩
  · have h0 := (hop_start hS hE).mpr q
    obtain ⟨J', q1, q2, q3⟩ := DV hB1 p3 p4 hE h0
    have n10 : ¬ (1 : Int32) = 0 := by decide
    subst r1
    exact ⟨J', by simp only [m_X5_checkBody, Nat.reduceAdd, p1, Option.bind_some, n10, if_false, q1], (p5.tr q3).b, Or.inl ⟨h0, hF.g fun a b u => (p5.tr q3) a b (by omega) (by omega) (by omega), q2⟩⟩
  · subst r0
    have h0 : ¬ hop T (gS S) n ni ne eo n 1000 = true := fun u => q ((hop_start hS hE).mp u)
    obtain ⟨c, J2, u1, u2, u3, u4, u5⟩ := VCnt hB1 p3
    have fr2 := p5.tr u5
    have hM2 := h.d hd fr2
    have hF2 : FlC J2 [] := hF.g fun a b u => fr2 a b (by omega) (by omega) (by omega)
    have h22 : J2 d 2 = nI (n + 2) := by rw [hM2.1, hl]
    have bc := bC hn h22
    have fin : ∀ kd : Nat, ∀ J', m_X1_add 29 (nI kd) (nI (S.getD (c + 1) zS).1) J2 = some J' → (∀ a b, ¬ (29 ≤ a ∧ a ≤ 31) → J' a b = J2 a b) → FrB d n J J' := fun kd J' _ hf a b p q r s => by rw [hf a b p, fr2 a b q r s]
    have st : J2 (d + 5 + 3 * (c + 1)) 2 = nI (S.getD (c + 1) zS).1 := (hM2.2 (c + 1) (by omega)).1
    obtain ⟨d', hm'⟩ := hm
    by_cases y : c < n
    · have cc : ¬ nI n ≤ nI c := nI_ge y (by omega)
      have ba := bA hm' hn h22 y
      have io := io_seg hm' (show c < 18 by omega)
      obtain ⟨J', q1, q2, q3⟩ := FlC.add (k := 11) (p := (S.getD (c + 1) zS).1) hF2 (by simp)
      have q1' : m_X1_add 29 (11 : Int32) (nI (S.getD (c + 1) zS).1) J2 = some J' := q1
      have st' : J2 (d + 8 + 3 * c) 2 = nI (S.getD (c + 1) zS).1 := by rw [show d + 8 + 3 * c = d + 5 + 3 * (c + 1) by omega]; exact st
      refine ⟨J', by simp only [m_X5_checkBody, Nat.reduceAdd, Nat.reduceSub, p1, Option.bind_some, if_true, u1, bc, cc, if_false, ba, io, gd_t, m_X9_start, st', q1'], fin 11 J' q1 q3, Or.inr ⟨h0, c, u2, u3, u4, ?_⟩⟩
      rw [if_pos y]
      exact q2
    · have hcn : c = n := by omega
      have cc : nI n ≤ nI c := nI_le (by omega) (by omega)
      obtain ⟨J', q1, q2, q3⟩ := FlC.add (k := 12) (p := (S.getD (c + 1) zS).1) hF2 (by simp)
      have q1' : m_X1_add 29 (12 : Int32) (nI (S.getD (c + 1) zS).1) J2 = some J' := q1
      have la := msgLast hd hM2 (by omega) (show 0 < S.length by omega)
      rw [show S.length - 1 = c + 1 by omega] at la
      refine ⟨J', by simp only [m_X5_checkBody, Nat.reduceAdd, Nat.reduceSub, p1, Option.bind_some, if_true, u1, bc, cc, la, io_sg hd (show c + 1 < 20 by omega), gd_t, m_X9_start, st, q1'], fin 12 J' q1 q3, Or.inr ⟨h0, c, u2, u3, u4, ?_⟩⟩
      rw [if_neg y]
      exact q2
theorem cnt_eq {P : Nat → Prop} {n c c' : Nat} (h1 : c ≤ n) (h2 : ∀ x, x < c → P (x + 1)) (h3 : c < n → ¬ P (c + 1)) (k1 : c' ≤ n) (k2 : ∀ x, x < c' → P (x + 1)) (k3 : c' < n → ¬ P (c' + 1)) : c = c' := by
  rcases Nat.lt_trichotomy c c' with h | h | h
  · exact absurd (k2 c h) (h3 (by omega))
  · exact h
  · exact absurd (h2 c' h) (k3 (by omega))
