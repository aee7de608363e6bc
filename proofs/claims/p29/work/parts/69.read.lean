def RdF (T : Nat → Nat → Nat) (n ni ne : Nat) (eo : Nat → Nat) (hc : Bool) (lc : Int32) (S : List Sg) (F0 F : List (Nat × Nat)) : Prop :=
  (F0 ≠ [] → F = F0) ∧ (F0 = [] → envF S ≠ [] → F = envF S) ∧ (F0 = [] → envF S = [] → numF hc lc S ≠ [] → F = numF hc lc S) ∧
  (F0 = [] → envF S = [] → numF hc lc S = [] → (hop T (gS S) n ni ne eo n 1000 = true ∧ F = []) ∨ (¬ hop T (gS S) n ni ne eo n 1000 = true ∧ ∃ c, c ≤ n ∧ (∀ c', c' < c → rcd T (gS S) n ne (c' + 1)) ∧ (c < n → ¬ rcd T (gS S) n ne (c + 1)) ∧ F = [(if c < n then 11 else 12, (S.getD (c + 1) zS).1)]))
theorem RdF.one {T : Nat → Nat → Nat} {n ni ne : Nat} {eo : Nat → Nat} {hc : Bool} {lc : Int32} {S : List Sg} {F0 F F' : List (Nat × Nat)} (h : RdF T n ni ne eo hc lc S F0 F) (h' : RdF T n ni ne eo hc lc S F0 F') : F = F' := by
  obtain ⟨a1, a2, a3, a4⟩ := h
  obtain ⟨b1, b2, b3, b4⟩ := h'
  by_cases x : F0 = []
  · by_cases y : envF S = []
    · by_cases z : numF hc lc S = []
      · rcases a4 x y z with ⟨p, q⟩ | ⟨p, c, q1, q2, q3, q4⟩
        · rcases b4 x y z with ⟨p', q'⟩ | ⟨p', _⟩
          · rw [q, q']
          · exact absurd p p'
        · rcases b4 x y z with ⟨p', _⟩ | ⟨p', c', r1, r2, r3, r4⟩
          · exact absurd p' p
          · have := cnt_eq (P := rcd T (gS S) n ne) q1 q2 q3 r1 r2 r3
            subst this
            rw [q4, r4]
      · rw [a3 x y z, b3 x y z]
    · rw [a2 x y, b2 x y]
  · rw [a1 x, b1 x]
theorem spF_len {t : Nat → Nat} {n : Nat} : ∀ f a, (spF t n f a).length ≤ 7 * f + 1 := by
  intro f
  induction f with
  | zero => intro a; rw [spF_0]; split <;> simp
  | succ f ih =>
    intro a
    have := ih (skp t 39 n a + 1)
    have h2 := sgF_len (t := t) (e := skp t 39 n a) (a := a)
    rw [spF_s]
    split
    · split
      · rw [List.length_append]; omega
      · simp
    · simp
theorem envF_len {S : List Sg} : (envF S).length ≤ 2 := by
  unfold envF
  rw [List.length_append]
  split <;> split <;> simp
theorem numF_len {hc : Bool} {lc : Int32} {S : List Sg} : (numF hc lc S).length ≤ 3 := by
  unfold numF
  rw [List.length_append, List.length_append]
  split <;> split <;> split <;> simp
theorem len0 {F : List (Nat × Nat)} (h : F.length < 1000) : nI F.length = 0 ↔ F = [] := by
  constructor
  · exact fun q => List.eq_nil_of_length_eq_zero ((nI_eq (b := 0) (by omega) (by omega)).mp q)
  · rintro rfl; rfl
def FrZ (d : Nat) (J J' : Mem) : Prop := ∀ a b, ¬ (29 ≤ a ∧ a ≤ 31) → ¬ (34 ≤ a ∧ a ≤ 37) → ¬ (a = 33 ∧ b = 5) → ¬ (a = d ∧ b = 2) → ¬ (d + 5 ≤ a ∧ a < d + 65) → J' a b = J a b
theorem FrZ.tr {d : Nat} {A B C : Mem} (h : FrZ d A B) (h2 : FrZ d B C) : FrZ d A C := fun a b p q r s u => (h2 a b p q r s u).trans (h a b p q r s u)
theorem readC {J : Mem} {T : Nat → Nat → Nat} {ni ne d tl : Nat} {eo tx : Nat → Nat} {hc : Bool} {lc : Int32} {S : List Sg} {F0 : List (Nat × Nat)} (hT : TxC J tx tl) (hC : SchC J T ni ne false) (hS : SF T ni ne) (hE : EO T ne eo) (hN : Non J) (hd : d = 62 ∨ d = 127)
    (hSS : S = spS tx tl 20 0) (hFF : F0 = spF tx tl 20 0) :
    ∃ r J' F, m_X5_accepts 32 27 d (bz hc) lc J = some (r, J') ∧ RdF T (S.length - 2) ni ne eo hc lc S F0 F ∧ FlC J' F ∧ F.length ≤ 141 ∧ FrZ d J J' ∧ ((F ≠ [] ∧ r = 0) ∨ (F = [] ∧ r = 1 ∧ F0 = [] ∧ envF S = [] ∧ MsC J' d S ∧ AS J' d (S.length - 2) (pth T (gS S) (S.length - 2) ni ne eo))) := by
  have hB : ∀ s ∈ S, SgB s := by rw [hSS]; exact spS_B (fun i hi => ⟨(hT.2.2 i hi).1, (hT.2.2 i hi).2.1⟩) 20 0
  have hl : S.length ≤ 20 := by rw [hSS]; exact spS_len 20 0
  have l0 : F0.length ≤ 141 := by rw [hFF]; exact spF_len 20 0
  have frw : FrZ d J (ms J 29 2 0) := fun a b p q r s u => ms_o (by omega)
  have hTw : TxC (ms J 29 2 0) tx tl := hT.fr fun a b q => ms_o (by omega)
  obtain ⟨J1, p1, p2, p3, p4⟩ := splitC hTw hd (show FlC (ms J 29 2 0) [] from ⟨ms_s rfl rfl, fun i hi => absurd hi (Nat.not_lt_zero _)⟩)
  rw [← hSS] at p2
  rw [← hFF] at p3
  have fr1 : FrZ d J J1 := frw.tr fun a b p q r s u => p4 a b p s u
  have cnt : ∀ (I : Mem) (F : List (Nat × Nat)), FlC I F → m_X1_count 29 I = some (nI F.length) := fun I F h => by simp only [m_X1_count, h.1]
  -- behind a check: nothing more if there is a fault
  have bad46 : ∀ (I : Mem) (F : List (Nat × Nat)), FlC I F → F ≠ [] → F.length < 1000 → m_X5_accepts_j46 32 d I = some (0, I) := fun I F h h0 hl => by
    have z : ¬ nI F.length = 0 := fun q => h0 ((len0 hl).mp q)
    simp only [m_X5_accepts_j46, m_X5_accepts_j61, Nat.reduceSub, cnt I F h, Option.bind_some, if_neg z]
  have bad28 : ∀ (I : Mem) (F : List (Nat × Nat)), FlC I F → F ≠ [] → F.length < 1000 → m_X5_accepts_j28 32 d (bz hc) lc I = some (0, I) := fun I F h h0 hl => by
    have z : ¬ nI F.length = 0 := fun q => h0 ((len0 hl).mp q)
    simp only [m_X5_accepts_j28, Nat.reduceSub, cnt I F h, Option.bind_some, if_neg z, bad46 I F h h0 hl]
  have n00 : nI ([] : List (Nat × Nat)).length = 0 := rfl
  by_cases x : F0 = []
  · rw [x] at p3
    have hK : ∀ s ∈ S, SgK s := fun s hs => ⟨hB s hs, by rw [hSS] at hs; exact spF_nil 20 0 (by rw [← hFF]; exact x) s hs⟩
    have hN1 : Non J1 := hN.congr fun a b q => fr1 a b (by unfold DNon at q; omega) (by unfold DNon at q; omega) (by unfold DNon at q; omega) (by unfold DNon at q; omega) (by unfold DNon at q; omega)
    obtain ⟨J2, q1, q2, q3⟩ := envC hd p2 hl hK hN1 p3
    have fr2 : FrZ d J J2 := fr1.tr fun a b p q r s u => q3 a b p
    by_cases y : envF S = []
    · have p2' : MsC J2 d S := ⟨by rw [q3 _ _ (by omega), p2.1], fun i hi => (p2.2 i hi).g fun a b q => q3 a b (by omega)⟩
      have q2' := q2
      rw [y] at q2'
      obtain ⟨z2, eh, et⟩ := env_ok y
      obtain ⟨J3, u1, u2, u3⟩ := numsC (hc := hc) (lc := lc) hd p2' hl hK y q2'
      have fr3 : FrZ d J J3 := fr2.tr fun a b p q r s u => u3 a b p
      by_cases z : numF hc lc S = []
      · have u2' := u2
        rw [z] at u2'
        have p3' : MsC J3 d S := ⟨by rw [u3 _ _ (by omega), p2'.1], fun i hi => (p2'.2 i hi).g fun a b q => u3 a b (by omega)⟩
        have hC3 : SchC J3 T ni ne false := hC.congr2 (by have := hS.1; omega) (by have := hS.2.1; omega) fun a b q ha => fr3 a b (by unfold DSch at q; omega) (by unfold DSch at q; omega) (by unfold DSch at q; omega) (by unfold DSch at q; omega) (by unfold DSch at q; omega)
        obtain ⟨J4, v1, v2, v3⟩ := bodC (n := S.length - 2) hC3 hS hE hd p3' (by omega) (by omega) hK u2'
        have fr4 : FrZ d J J4 := fr3.tr fun a b p q r s u => v2 a b p q r (by rintro ⟨_, w, hw, e⟩; omega)
        rcases v3 with ⟨w1, w2, w3⟩ | ⟨w1, c, w2, w3, w4, w5⟩
        · refine ⟨1, J4, [], ?_, ⟨fun h => absurd x h, fun _ h => absurd y h, fun _ _ h => absurd z h, fun _ _ _ => Or.inl ⟨w1, rfl⟩⟩, w2, by simp, fr4, Or.inr ⟨rfl, rfl, x, y, ?_, w3⟩⟩
          · simp only [m_X5_accepts, m_X1_wipe, bnd, Nat.reduceSub, Option.bind_some, p1, cnt J1 _ p3, n00, if_true, q1, m_X5_accepts_j28, cnt J2 _ q2', u1, m_X5_accepts_j46, cnt J3 _ u2', v1, m_X5_accepts_j61, cnt J4 _ w2]
          · refine ⟨by rw [v2 _ _ (by omega) (by omega) (by omega) (by omega), p3'.1], fun i hi => ?_⟩
            obtain ⟨h1, h2, h3⟩ := p3'.2 i hi
            refine ⟨by rw [v2 _ _ (by omega) (by omega) (by omega) (by omega), h1], by rw [v2 _ _ (by omega) (by omega) (by omega) (by omega), h2], h3.g fun a b q => v2 a b (by omega) (by omega) (by omega) ?_⟩
            rintro ⟨u, s, _, e⟩
            omega
        · have one : ¬ nI ([(if c < S.length - 2 then 11 else 12, (S.getD (c + 1) zS).1)] : List (Nat × Nat)).length = 0 := by rw [List.length_singleton]; decide
          refine ⟨0, J4, _, ?_, ⟨fun h => absurd x h, fun _ h => absurd y h, fun _ _ h => absurd z h, fun _ _ _ => Or.inr ⟨w1, c, w2, w3, w4, rfl⟩⟩, w5, by simp, fr4, Or.inl ⟨by simp, rfl⟩⟩
          simp only [m_X5_accepts, m_X1_wipe, bnd, Nat.reduceSub, Option.bind_some, p1, cnt J1 _ p3, n00, if_true, q1, m_X5_accepts_j28, cnt J2 _ q2', u1, m_X5_accepts_j46, cnt J3 _ u2', v1, m_X5_accepts_j61, cnt J4 _ w5, if_neg one]
      · have nl := numF_len (hc := hc) (lc := lc) (S := S)
        refine ⟨0, J3, numF hc lc S, ?_, ⟨fun h => absurd x h, fun _ h => absurd y h, fun _ _ _ => rfl, fun _ _ h => absurd h z⟩, u2, by omega, fr3, Or.inl ⟨z, rfl⟩⟩
        simp only [m_X5_accepts, m_X1_wipe, bnd, Nat.reduceSub, Option.bind_some, p1, cnt J1 _ p3, n00, if_true, q1, m_X5_accepts_j28, cnt J2 _ q2', u1, bad46 J3 _ u2 z (by omega)]
    · have nl := envF_len (S := S)
      refine ⟨0, J2, envF S, ?_, ⟨fun h => absurd x h, fun _ _ => rfl, fun _ h => absurd h y, fun _ h => absurd h y⟩, q2, by omega, fr2, Or.inl ⟨y, rfl⟩⟩
      simp only [m_X5_accepts, m_X1_wipe, bnd, Nat.reduceSub, Option.bind_some, p1, cnt J1 _ p3, n00, if_true, q1, bad28 J2 _ q2 y (by omega)]
  · have z : ¬ nI F0.length = 0 := fun q => x ((len0 (by omega)).mp q)
    refine ⟨0, J1, F0, ?_, ⟨fun _ => rfl, fun h => absurd h x, fun h => absurd h x, fun h => absurd h x⟩, p3, l0, fr1, Or.inl ⟨x, rfl⟩⟩
    simp only [m_X5_accepts, m_X1_wipe, bnd, Nat.reduceSub, Option.bind_some, p1, cnt J1 _ p3, if_neg z, bad28 J1 _ p3 x (by omega)]
