/-! reading: the accepted message, the reference's copy -/
def AcM (K : Mem) (s : Nat) (S : Sg) : Prop := K 214 s = nI (tgM S.2.1) ∧ K 215 s = nI S.2.2.length ∧ ∀ e, e < S.2.2.length → K 216 (5 * s + e) = nI (S.2.2.getD e []).length ∧ ∀ x, x < (S.2.2.getD e []).length → K 217 (8 * (5 * s + e) + x) = nI ((S.2.2.getD e []).getD x 0)
theorem ix5' {k e : Nat} (hk : k < 19) (he : e < 5) : (5 : Int32) * nI k + 5 + nI e = nI (5 * (k + 1) + e) ∧ inb (nI (5 * (k + 1) + e)) 100 = true ∧ (nI (5 * (k + 1) + e)).toNatClampNeg = 5 * (k + 1) + e := by
  refine ⟨?_, inb_n (by omega) (by omega), nI_clamp (by omega)⟩
  have h : (5 : Int32) * nI k = nI (5 * k) := pk_mul 5 k
  rw [h, show nI (5 * k) + 5 = nI (5 * k + 5) from nI_add _ 5, nI_add]
  congr 1
theorem acc104 {I : Mem} {k e : Nat} {w : List Nat} (hk : k < 18) (he : e < 5) (hl : w.length ≤ 8) (hB : LB w) (h : ElM I (5 * (k + 1) + e) w) (h6 : I 216 (5 * k + e) = nI w.length) :
    ∃ I', loopF (fun a => m_X12_accepts_b104 196 (nI k) (nI e) a.1 a.2) FU ((0 : Int32), I) = some I' ∧ (∀ x, x < w.length → I' 217 (8 * (5 * k + e) + x) = nI (w.getD x 0)) ∧ ∀ a b, ¬ (a = 217 ∧ 8 * (5 * k + e) ≤ b ∧ b < 8 * (5 * k + e) + 8) → I' a b = I a b := by
  obtain ⟨x1, x2, x3⟩ := ix5 (s := k) (e := e) (by omega) he
  obtain ⟨y1, y2, y3⟩ := ix5' (k := k) (e := e) (by omega) he
  obtain ⟨b, f1, f2⟩ := loop_run (body := fun a => m_X12_accepts_b104 196 (nI k) (nI e) a.1 a.2)
    (Inv := fun r a => ∃ x, x ≤ w.length ∧ r = w.length - x ∧ a.1 = nI x ∧ (∀ u, u < x → a.2 217 (8 * (5 * k + e) + u) = nI (w.getD u 0)) ∧ ∀ a' b, ¬ (a' = 217 ∧ 8 * (5 * k + e) ≤ b ∧ b < 8 * (5 * k + e) + 8) → a.2 a' b = I a' b)
    (Post := fun b => (∀ x, x < w.length → b 217 (8 * (5 * k + e) + x) = nI (w.getD x 0)) ∧ ∀ a b', ¬ (a = 217 ∧ 8 * (5 * k + e) ≤ b' ∧ b' < 8 * (5 * k + e) + 8) → b a b' = I a b') (fun r a ⟨x, g1, g2, g3, g4, g5⟩ => by
      obtain ⟨c, J⟩ := a
      simp only at g3 g4 g5
      subst g3
      have j6 : J 216 (5 * k + e) = nI w.length := by rw [g5 _ _ (by omega), h6]
      by_cases z : x = w.length
      · have cc : nI w.length ≤ nI x := nI_le (by omega) (by omega)
        refine Or.inl ⟨J, by simp only [m_X12_accepts_b104, x1, x2, x3, gd_t, Nat.reduceAdd, j6, cc, if_true], ?_, g5⟩
        rw [← z]
        exact g4
      · have hx : x < w.length := by omega
        have cc : ¬ nI w.length ≤ nI x := nI_ge hx (by omega)
        obtain ⟨a1, a2, a3⟩ := ix8 (a := 5 * k + e) (x := x) (by omega) (by omega)
        obtain ⟨b1, b2, b3⟩ := ix8 (a := 5 * (k + 1) + e) (x := x) (by omega) (by omega)
        have lt := hB.at hx
        have src : J 213 (8 * (5 * (k + 1) + e) + x) = nI (w.getD x 0) := by rw [g5 _ _ (by omega)]; exact h.2 x hx (by omega)
        have ok := okc_n' (show w.getD x 0 < 65536 by omega)
        have e3 : nI x + 1 = nI (x + 1) := nI_1 x
        refine Or.inr ⟨(nI (x + 1), ms J 217 (8 * (5 * k + e) + x) (nI (w.getD x 0))), w.length - (x + 1), by omega, by simp only [m_X12_accepts_b104, x1, x2, x3, gd_t, Nat.reduceAdd, j6, cc, if_false, y1, b1, b2, b3, a1, a2, a3, src, ok, bnd, e3], x + 1, by omega, rfl, rfl, fun u hu => ?_, fun a b q => ?_⟩
        · dsimp only
          by_cases o : u = x
          · subst o
            rw [ms_s rfl rfl]
          · rw [ms_o (by omega)]
            exact g4 u (by omega)
        · dsimp only
          rw [ms_o (by omega), g5 a b q]) FU w.length ((0 : Int32), I) (by unfold FU; omega) ⟨0, by omega, rfl, rfl, fun u hu => absurd hu (Nat.not_lt_zero _), fun _ _ _ => rfl⟩
  exact ⟨b, f1, f2⟩
def FrY (k : Nat) (I I' : Mem) : Prop := ∀ a b, ¬ (a = 216 ∧ 5 * k ≤ b ∧ b < 5 * k + 5) → ¬ (a = 217 ∧ 40 * k ≤ b ∧ b < 40 * k + 40) → I' a b = I a b
theorem acc70 {I : Mem} {k : Nat} {S : Sg} (hk : k < 18) (hK : SgK S) (h : SgM I (k + 1) S) (h5 : I 215 k = nI S.2.2.length) :
    ∃ I', loopF (fun a => m_X12_accepts_b70 196 (nI k) a.1 a.2) FU ((0 : Int32), I) = some I' ∧ (∀ e, e < S.2.2.length → I' 216 (5 * k + e) = nI (S.2.2.getD e []).length ∧ ∀ x, x < (S.2.2.getD e []).length → I' 217 (8 * (5 * k + e) + x) = nI ((S.2.2.getD e []).getD x 0)) ∧ FrY k I I' := by
  have w8 : inb (nI k) 20 = true := inb_n (by omega) (by omega)
  have w9 : (nI k).toNatClampNeg = k := nI_clamp (by omega)
  have hl5 := hK.1.1
  obtain ⟨b, f1, f2⟩ := loop_run (body := fun a => m_X12_accepts_b70 196 (nI k) a.1 a.2)
    (Inv := fun r a => ∃ e, e ≤ S.2.2.length ∧ r = S.2.2.length - e ∧ a.1 = nI e ∧ (∀ u, u < e → a.2 216 (5 * k + u) = nI (S.2.2.getD u []).length ∧ ∀ x, x < (S.2.2.getD u []).length → a.2 217 (8 * (5 * k + u) + x) = nI ((S.2.2.getD u []).getD x 0)) ∧ FrY k I a.2)
    (Post := fun b => (∀ e, e < S.2.2.length → b 216 (5 * k + e) = nI (S.2.2.getD e []).length ∧ ∀ x, x < (S.2.2.getD e []).length → b 217 (8 * (5 * k + e) + x) = nI ((S.2.2.getD e []).getD x 0)) ∧ FrY k I b) (fun r a ⟨e, g1, g2, g3, g4, g5⟩ => by
      obtain ⟨c, J⟩ := a
      simp only at g3 g4 g5
      subst g3
      have j5 : J 215 k = nI S.2.2.length := by rw [g5 _ _ (by omega) (by omega), h5]
      by_cases z : e = S.2.2.length
      · have cc : nI S.2.2.length ≤ nI e := nI_le (by omega) (by omega)
        refine Or.inl ⟨J, by simp only [m_X12_accepts_b70, w8, w9, gd_t, Nat.reduceAdd, j5, cc, if_true], ?_, g5⟩
        rw [← z]
        exact g4
      · have he : e < S.2.2.length := by omega
        have cc : ¬ nI S.2.2.length ≤ nI e := nI_ge he (by omega)
        obtain ⟨x1, x2, x3⟩ := ix5 (s := k) (e := e) (by omega) (by omega)
        obtain ⟨y1, y2, y3⟩ := ix5' (k := k) (e := e) (by omega) (by omega)
        have e3 : nI e + 1 = nI (e + 1) := nI_1 e
        have hel := h.2.2.2 e he
        have hll := hK.len he
        have src : J 212 (5 * (k + 1) + e) = nI (S.2.2.getD e []).length := by rw [g5 _ _ (by omega) (by omega)]; exact hel.1
        obtain ⟨J2, hJ2⟩ : ∃ J2, J2 = ms J 216 (5 * k + e) (nI (S.2.2.getD e []).length) := ⟨_, rfl⟩
        have frJ : ∀ a b, ¬ (a = 216 ∧ b = 5 * k + e) → J2 a b = J a b := fun a b q => by rw [hJ2, ms_o (by omega)]
        obtain ⟨J3, u1, u2, u3⟩ := acc104 (I := J2) (e := e) hk (by omega) hll (hK.1.el he) ⟨by rw [frJ _ _ (by omega), src], fun x hx h8 => by rw [frJ _ _ (by omega), g5 _ _ (by omega) (by omega)]; exact hel.2 x hx h8⟩ (by rw [hJ2, ms_s rfl rfl])
        rw [hJ2] at u1
        refine Or.inr ⟨(nI (e + 1), J3), S.2.2.length - (e + 1), by omega, by simp only [m_X12_accepts_b70, w8, w9, gd_t, Nat.reduceAdd, j5, cc, if_false, y1, y2, y3, x1, x2, x3, src, bnd, u1, Option.bind_some, e3], e + 1, by omega, rfl, rfl, fun u hu => ?_, fun a b q r => ?_⟩
        · dsimp only
          by_cases o : u = e
          · subst o
            exact ⟨by rw [u3 _ _ (by omega), hJ2, ms_s rfl rfl], u2⟩
          · obtain ⟨k1, k2⟩ := g4 u (by omega)
            have hul := hK.len (show u < S.2.2.length by omega)
            exact ⟨by rw [u3 _ _ (by omega), frJ _ _ (by omega), k1], fun x hx => by rw [u3 _ _ (by omega), frJ _ _ (by omega)]; exact k2 x hx⟩
        · dsimp only
          rw [u3 _ _ (by omega), frJ _ _ (by omega), g5 a b q r]) FU S.2.2.length ((0 : Int32), I) (by unfold FU; omega) ⟨0, by omega, rfl, rfl, fun u hu => absurd hu (Nat.not_lt_zero _), fun _ _ _ _ => rfl⟩
  exact ⟨b, f1, f2⟩
def FrA (K K' : Mem) : Prop := ∀ a b, ¬ (a = 196 ∧ (23 ≤ b ∧ b ≤ 25 ∨ b = 32)) → ¬ (214 ≤ a ∧ a ≤ 217) → K' a b = K a b
theorem acceptsM {K : Mem} {S : List Sg} {n : Nat} (h : MsM K S) (hl : S.length = n + 2) (hn : n ≤ 18) (hK : ∀ s ∈ S, SgK s) (hE : envF S = []) :
    ∃ K', m_X12_accepts 196 K = some K' ∧ K' 196 23 = 1 ∧ K' 196 24 = 1 ∧ K' 196 25 = nmE (hdS S) 0 ∧ K' 196 32 = nI n ∧ (∀ s, s < n → AcM K' s (S.getD (s + 1) zS)) ∧ FrA K K' := by
  obtain ⟨z, eh, et⟩ := env_ok hE
  have lh := (isEv_ok eh).2
  have kh : SgK (hdS S) := hK _ (getD_memS (by omega))
  obtain ⟨K5, hK5⟩ : ∃ K5, K5 = ms (ms (ms (ms K 196 23 1) 196 24 1) 196 25 (nmE (hdS S) 0)) 196 32 (nI n) := ⟨_, rfl⟩
  have fr5 : ∀ a b, ¬ (a = 196 ∧ (23 ≤ b ∧ b ≤ 25 ∨ b = 32)) → K5 a b = K a b := fun a b q => by rw [hK5, ms_o (by omega), ms_o (by omega), ms_o (by omega), ms_o (by omega)]
  have n0 : m_X12_numberIn 196 (0 : Int32) (0 : Int32) (ms (ms K 196 23 1) 196 24 1) = some (nmE (hdS S) 0) := by
    have hm : MsM (ms (ms K 196 23 1) 196 24 1) S := h.g fun a b q => by rw [ms_o (by omega), ms_o (by omega)]
    exact kh.nM (i := 0) (hm.2 0 (by omega)) (by omega) (j := 0) (by omega)
  have c22 : ms (ms (ms K 196 23 1) 196 24 1) 196 25 (nmE (hdS S) 0) 196 22 - 2 = nI n := by rw [ms_o (by omega), ms_o (by omega), ms_o (by omega), h.1, hl]; exact sub_two n
  obtain ⟨b, f1, f2⟩ := loop_run (body := fun a => m_X12_accepts_b32 196 a.1 a.2)
    (Inv := fun r a => ∃ k, k ≤ n ∧ r = n - k ∧ a.1 = nI k ∧ (∀ s, s < k → AcM a.2 s (S.getD (s + 1) zS)) ∧ ∀ a' b, ¬ (214 ≤ a' ∧ a' ≤ 217) → a.2 a' b = K5 a' b)
    (Post := fun b => (∀ s, s < n → AcM b s (S.getD (s + 1) zS)) ∧ ∀ a b', ¬ (214 ≤ a ∧ a ≤ 217) → b a b' = K5 a b') (fun r a ⟨k, g1, g2, g3, g4, g5⟩ => by
      obtain ⟨c, J⟩ := a
      simp only at g3 g4 g5
      subst g3
      have j32 : J 196 32 = nI n := by rw [g5 _ _ (by omega), hK5, ms_s rfl rfl]
      by_cases y : k = n
      · have cc : nI n ≤ nI k := nI_le (by omega) (by omega)
        refine Or.inl ⟨J, by simp only [m_X12_accepts_b32, j32, cc, if_true], ?_, g5⟩
        rw [← y]
        exact g4
      · have hk : k < n := by omega
        have cc : ¬ nI n ≤ nI k := nI_ge hk (by omega)
        have hkS : SgK (S.getD (k + 1) zS) := hK _ (getD_memS (by omega))
        have ht := okt_eq hkS.2.1
        have w5 : nI k + 1 = nI (k + 1) := nI_1 k
        have w6 : inb (nI (k + 1)) 20 = true := inb_n (by omega) (by omega)
        have w7 : (nI (k + 1)).toNatClampNeg = k + 1 := nI_clamp (by omega)
        have v8 : inb (nI k) 20 = true := inb_n (by omega) (by omega)
        have v9 : (nI k).toNatClampNeg = k := nI_clamp (by omega)
        have ok := okc_n' (show tgM (S.getD (k + 1) zS).2.1 < 65536 by omega)
        have hmJ : SgM J (k + 1) (S.getD (k + 1) zS) := (h.g (K' := J) fun a b q => by rw [g5 a b (by omega), fr5 a b (by omega)]).2 (k + 1) (by omega)
        obtain ⟨J2, hJ2⟩ : ∃ J2, J2 = ms (ms J 214 k (nI (tgM (S.getD (k + 1) zS).2.1))) 215 k (nI (S.getD (k + 1) zS).2.2.length) := ⟨_, rfl⟩
        have frJ : ∀ a b, a ≠ 214 → a ≠ 215 → J2 a b = J a b := fun a b p q => by rw [hJ2, ms_o (by omega), ms_o (by omega)]
        have src : ms J 214 k (nI (tgM (S.getD (k + 1) zS).2.1)) 211 (k + 1) = nI (S.getD (k + 1) zS).2.2.length := by rw [ms_o (by omega)]; exact hmJ.2.2.1
        have hm2 : SgM J2 (k + 1) (S.getD (k + 1) zS) := by
          obtain ⟨a1, a2, a3, a4⟩ := hmJ
          exact ⟨by rw [frJ _ _ (by omega) (by omega), a1], by rw [frJ _ _ (by omega) (by omega), a2], by rw [frJ _ _ (by omega) (by omega), a3], fun j hj => ⟨by rw [frJ _ _ (by omega) (by omega), (a4 j hj).1], fun x hx h8 => by rw [frJ _ _ (by omega) (by omega)]; exact (a4 j hj).2 x hx h8⟩⟩
        obtain ⟨J3, u1, u2, u3⟩ := acc70 (I := J2) (k := k) (by omega) hkS hm2 (by rw [hJ2, ms_s rfl rfl])
        rw [hJ2] at u1
        refine Or.inr ⟨(nI (k + 1), J3), n - (k + 1), by omega, by simp only [m_X12_accepts_b32, j32, cc, if_false, w5, w6, w7, v8, v9, gd_t, Nat.reduceAdd, hmJ.2.1, ok, bnd, src, u1, Option.bind_some], k + 1, by omega, rfl, rfl, fun s hs => ?_, fun a b q => ?_⟩
        · dsimp only
          by_cases o : s = k
          · subst o
            exact ⟨by rw [u3 _ _ (by omega) (by omega), hJ2, ms_o (by omega), ms_s rfl rfl], by rw [u3 _ _ (by omega) (by omega), hJ2, ms_s rfl rfl], u2⟩
          · obtain ⟨k1, k2, k3⟩ := g4 s (by omega)
            have hsK : SgK (S.getD (s + 1) zS) := hK _ (getD_memS (by omega))
            have hs5 := hsK.1.1
            have kp : ∀ a b, ¬ (a = 214 ∧ b = k) → ¬ (a = 215 ∧ b = k) → J2 a b = J a b := fun a b p q => by rw [hJ2, ms_o (by omega), ms_o (by omega)]
            refine ⟨by rw [u3 _ _ (by omega) (by omega), kp _ _ (by omega) (by omega), k1], by rw [u3 _ _ (by omega) (by omega), kp _ _ (by omega) (by omega), k2], fun e he => ?_⟩
            obtain ⟨m1, m2⟩ := k3 e he
            have hel := hsK.len he
            exact ⟨by rw [u3 _ _ (by omega) (by omega), kp _ _ (by omega) (by omega), m1], fun x hx => by rw [u3 _ _ (by omega) (by omega), kp _ _ (by omega) (by omega)]; exact m2 x hx⟩
        · dsimp only
          rw [u3 a b (by omega) (by omega), frJ a b (by omega) (by omega), g5 a b q]) FU n ((0 : Int32), K5) (by unfold FU; omega) ⟨0, by omega, rfl, rfl, fun s hs => absurd hs (Nat.not_lt_zero _), fun _ _ _ => rfl⟩
  obtain ⟨f2, f3⟩ := f2
  rw [hK5] at f1
  refine ⟨b, by simp only [m_X12_accepts, bnd, n0, Option.bind_some, c22, f1], ?_, ?_, ?_, ?_, f2, fun a b' q r => by rw [f3 a b' r, fr5 a b' q]⟩
  · rw [f3 _ _ (by omega), hK5, ms_o (by omega), ms_o (by omega), ms_o (by omega), ms_s rfl rfl]
  · rw [f3 _ _ (by omega), hK5, ms_o (by omega), ms_o (by omega), ms_s rfl rfl]
  · rw [f3 _ _ (by omega), hK5, ms_o (by omega), ms_s rfl rfl]
  · rw [f3 _ _ (by omega), hK5, ms_s rfl rfl]
