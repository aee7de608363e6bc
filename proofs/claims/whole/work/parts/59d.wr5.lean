def Ltr (L : List Nat) : Prop := ∀ c ∈ L, 32 ≤ c ∧ c ≤ 126
theorem Ltr.app {A B : List Nat} (h : Ltr A) (h2 : Ltr B) : Ltr (A ++ B) := fun c hc => by
  rcases List.mem_append.mp hc with z | z
  · exact h c z
  · exact h2 c z
theorem Ltr.flat {n : Nat} {F : Nat → List Nat} (h : ∀ x, x < n → Ltr (F x)) : Ltr ((List.range n).flatMap F) := fun c hc => by
  obtain ⟨x, hx, hc⟩ := List.mem_flatMap.mp hc
  exact h x (List.mem_range.mp hx) c hc
theorem Ltr.one {c : Nat} (h1 : 32 ≤ c) (h2 : c ≤ 126) : Ltr [c] := fun x hx => by
  rw [List.mem_singleton.mp hx]
  exact ⟨h1, h2⟩
theorem Ltr.num (n : Nat) : Ltr (numL n) := by
  have d : ∀ u, Ltr [dg n u] := fun u => Ltr.one (by unfold dg; omega) (by unfold dg; omega)
  unfold numL
  split
  · exact d 1
  · split
    · exact (d 10).app (d 1)
    · split
      · exact (d 100).app ((d 10).app (d 1))
      · exact (d 1000).app ((d 100).app ((d 10).app (d 1)))
theorem Ltr_rel {q : Nat} (h1 : 32 ≤ q) (h2 : q ≤ 126) : Ltr (rel q) := by
  unfold rel
  split
  · exact (Ltr.one (c := 63) (by omega) (by omega)).app (Ltr.one h1 h2)
  · exact Ltr.one h1 h2
theorem Ltr_cont {I : Mem} {m s e : Nat} (h : SegP I m s) : Ltr (cont I m s e) := Ltr.flat fun x hx => by
  have := h.let_ hx
  exact Ltr_rel this.1 this.2.1
theorem Ltr_trn {I : Mem} {m s r : Nat} (h : SegP I m s) (hR : RulP I r) : Ltr (trn I m s r) := by
  obtain ⟨r1, r2, ⟨q0, r3, r4, r5⟩, -, -⟩ := hR
  have e : (I (42 + 2 * r) 2).toNatClampNeg = q0 := by rw [r2, r5, nI_clamp (by omega)]
  unfold trn
  rw [e]
  exact (Ltr.one (by omega) (by omega)).app ((Ltr.flat fun x _ => (Ltr.one (by omega) (by omega)).app (Ltr_cont h)).app (Ltr.one (by omega) (by omega)))
theorem Ltr_out {I : Mem} {m nb nr k : Nat} (hB : BodP I m nb) (hR : RulsP I nr) : Ltr (outL I m nb nr k) := by
  have o : ∀ c, 32 ≤ c → c ≤ 126 → Ltr [c] := fun c h1 h2 => Ltr.one h1 h2
  have hb : Ltr ((List.range nb).flatMap (bodF I m nr)) := Ltr.flat fun s hs => Ltr.flat fun r hr => by
    unfold segF
    split
    · exact Ltr_trn (hB.2.2.2 s hs) (hR.2.2.2 r hr)
    · intro c hc; cases hc
  unfold outL
  exact (o 72 (by omega) (by omega)).app ((o 43 (by omega) (by omega)).app ((Ltr.num _).app ((o 39 (by omega) (by omega)).app (hb.app ((o 84 (by omega) (by omega)).app ((o 43 (by omega) (by omega)).app ((Ltr.num _).app ((o 43 (by omega) (by omega)).app ((Ltr.num _).app (o 39 (by omega) (by omega)))))))))))
theorem Ltr.at {L : List Nat} (h : Ltr L) {i : Nat} (hi : i < L.length) : 32 ≤ L.getD i 0 ∧ L.getD i 0 ≤ 126 := by
  rw [List.getD_eq_getElem?_getD, List.getElem?_eq_getElem hi]
  exact h _ (List.getElem_mem hi)
theorem Inv.outp {I I' : Mem} (h : Inv I) {m d wl k : Nat} (hc : ∀ a b, ¬ ((192 ≤ a ∧ a ≤ 195) ∨ (a = 0 ∧ 10 ≤ b ∧ b ≤ 12) ∨ (a = 196 ∧ 44 ≤ b) ∨ 228 ≤ a) → I' a b = I a b) (hs : OutP I' m d wl k) : Inv I' := by
  obtain ⟨h1, h2, h3, h4, h5, h6, h7, h8⟩ := h
  exact ⟨h1.congr fun a b hd => hc a b (by unfold DSch at hd; omega), h2.congr fun a b hd => hc a b (by unfold DNon at hd; omega), h3.congr fun a b hd => hc a b (by unfold DTxt at hd; omega), h4.congr fun a b hd => hc a b (by unfold DFlt at hd; omega), h5.congr fun a b hd => hc a b (by unfold DCtl at hd; omega), h6.congr fun a b hd => hc a b (by unfold DAcc' at hd; omega), h7.congr fun a b hd => hc a b (by unfold DRul at hd; omega), ⟨m, d, wl, k, hs⟩⟩
/-- the reference's copy of what it drafted -/
theorem copy_M {K : Mem} {n : Nat} {f : Nat → Nat} (hn : n ≤ 300) (h1 : K 196 44 = nI n) (h2 : ∀ i, i < n → f i < 65536 ∧ K 228 i = nI (f i)) : ∃ K', loopF (fun a => m_X12_write_b80 196 a.1 a.2) FU ((0 : Int32), K) = some K' ∧ (∀ i, i < n → K' 229 i = nI (f i)) ∧ ∀ a b, a ≠ 229 → K' a b = K a b := by
  exact loop_run (body := fun a => m_X12_write_b80 196 a.1 a.2) (Inv := fun r a => ∃ x, x ≤ n ∧ r = n - x ∧ a.1 = nI x ∧ (∀ i, i < x → a.2 229 i = nI (f i)) ∧ ∀ p b, p ≠ 229 → a.2 p b = K p b)
    (Post := fun K' => (∀ i, i < n → K' 229 i = nI (f i)) ∧ ∀ a b, a ≠ 229 → K' a b = K a b)
    (fun r a ⟨x, hx, hr, a1, a2, a3⟩ => by
      obtain ⟨c, J⟩ := a
      have a1 : c = nI x := a1
      subst a1
      have a2 : ∀ i, i < x → J 229 i = nI (f i) := a2
      have a3 : ∀ p b, p ≠ 229 → J p b = K p b := a3
      have b1 : J 196 44 = nI n := by rw [a3 196 44 (by omega), h1]
      by_cases hlt : x < n
      · obtain ⟨y1, y2⟩ := h2 x hlt
        have z1 : ¬ nI n ≤ nI x := nI_ge hlt (by omega)
        have z2 : inb (nI x) 300 = true := inb_n (by omega) (by omega)
        have z3 : (nI x).toNatClampNeg = x := nI_clamp (by omega)
        have z4 : J 228 x = nI (f x) := by rw [a3 _ _ (by omega)]; exact y2
        have z6 : okc (nI (f x)) = true := okc_n' y1
        refine Or.inr ⟨(nI x + 1, ms J 229 x (nI (f x))), n - (x + 1), by omega, ?_, x + 1, by omega, rfl, nI_1 x, fun i hi => ?_, fun p b g1 => ?_⟩
        · simp [m_X12_write_b80, b1, z1, z2, z3, gd_t, z4, z6, bnd]
        · by_cases q : i = x
          · subst q; simp [ms_app]
          · simp [ms_app, q, a2 i (by omega)]
        · show ms J 229 x (nI (f x)) p b = _
          rw [ms_o (by omega), a3 p b g1]
      · have hx2 : x = n := by omega
        subst hx2
        exact Or.inl ⟨J, by simp [m_X12_write_b80, b1, nI_le (Nat.le_refl x) (show x < 2 ^ 31 by omega)], a2, a3⟩) FU n ((0 : Int32), K) (by unfold FU; omega) ⟨0, by omega, by omega, rfl, fun i hi => absurd hi (Nat.not_lt_zero _), fun _ _ _ => rfl⟩
theorem op_write {I : Mem} (hI : Inv I) : OKc (caseA (wrE hv_write (m_X11_write 0 I)) (fun I => m_X12_write 196 I)) := by
  obtain ⟨m, d', hm, h1, h2, ha, h3, h4, h5⟩ := hI.2.2.2.2.2.1
  obtain ⟨nr, hR⟩ := hI.2.2.2.2.2.2.1
  obtain ⟨o, d, wl, k, ho, o1, o2, o3, o4, o5, o6, o7, o8, o9⟩ := hI.2.2.2.2.2.2.2
  cases ha with
  | false =>
    rw [bz_f] at h3 h4
    exact opA_ex (c := 1) (k := 1) (I1 := I) (I2 := ms I 196 48 1) (v := 0) (by simp [m_X11_write, m_X11_needMessage, h3, obx]) rfl (by decide) (by simp [m_X12_write, h4, m_X12_write_j40, m_X12_write_j41, m_X12_write_j52, m_X12_isFine, bnd]) (ms_s rfl rfl) hI.thr
  | true =>
    rw [bz_t] at h3 h4
    obtain ⟨nb, hB⟩ := h5 rfl
    have e1 : (nI m).toNatClampNeg = m := nI_clamp (by omega)
    have e2 := io_msg hm
    have e3 : (nI d).toNatClampNeg = d := nI_clamp (by omega)
    have e3' : (nI o).toNatClampNeg = o := nI_clamp (by omega)
    have e4 := (io_sh ho).2
    have e4' := (io_sh ho).1
    by_cases hk : k = 9999
    · have z1 : ¬ nI k < 9999 := by rw [hk]; decide
      have z2 : 9999 ≤ nI k := by rw [hk]; decide
      exact opA_ex (c := 1) (k := 1) (I1 := I) (I2 := ms I 196 48 1) (v := 0) (by simp [m_X11_write, m_X11_needMessage, h3, obx, m_X11_write_j4, o8, z1]) rfl (by decide) (by simp [m_X12_write, h4, o9, z2, m_X12_write_j40, m_X12_write_j41, m_X12_write_j52, m_X12_isFine, bnd]) (ms_s rfl rfl) hI.thr
    · have z1 : nI k < 9999 := nI_lt (b := 9999) (by omega) (by omega)
      have z2 : ¬ 9999 ≤ nI k := nI_ge (b := 9999) (by omega) (by omega)
      obtain ⟨J, j1, j2, j3⟩ := trans_C (d := d) (by omega) hm hB hR (show k < 9999 by omega)
      have hcl := cnt_le (I := I) (m := m) hB.1 hR.1
      have hAg : ∀ (J2 : Mem), (∀ a b, 196 ≤ a → a ≤ 229 → J2 a b = I a b) → AgM I J2 := fun J2 h a b hab => h a b (by omega) (by omega)
      have hlow : ∀ a b, ¬ (192 ≤ a ∧ a ≤ 195) → J a b = I a b := fun a b h => j3 a b (by omega) (by omega)
      by_cases hok : cntL I m nb nr ≤ 20 ∧ (outL I m nb nr k).length ≤ 300
      · have hlen := hok.2
        have hmin : min (outL I m nb nr k).length 300 = (outL I m nb nr k).length := by omega
        have hL := Ltr_out (k := k) hB hR
        generalize hN : (outL I m nb nr k).length = n at hlen hmin
        have hfl : bz (decide (cntL I m nb nr ≤ 20 ∧ n ≤ 300)) = 1 := by simp [bz, hok.1, hlen]
        rw [hN, hfl] at j1
        have hJ1 : J d 1 = nI n := by have := j2.1; rw [hN, hmin] at this; exact this
        -- the class's memory
        have c1 : m_X11_write 0 I = some (.inl (nI n), ms (ms (ms J 0 12 (nI k + 1)) 0 10 (nI d)) 0 11 (nI o)) := by
          have y1 : J 0 12 = nI k := by rw [hlow _ _ (by omega), o8]
          have y2 : J 0 10 = nI o := by rw [hlow _ _ (by omega), o1]
          have y3 : J 0 11 = nI d := by rw [hlow _ _ (by omega), o2]
          have y4 : ¬ d = 0 := by omega
          simp [m_X11_write, m_X11_needMessage, h3, obx, m_X11_write_j4, o8, z1, h1, e1, e2, o2, e3, e4, gd_t, nI_1, j1, bnd, ms_app, y1, y2, y3, e3', e4', m_X10_count, y4, hJ1]
        generalize hI1 : ms (ms (ms J 0 12 (nI k + 1)) 0 10 (nI d)) 0 11 (nI o) = I1 at c1
        have f1 : ∀ a b, ¬ (192 ≤ a ∧ a ≤ 195) → ¬ (a = 0 ∧ 10 ≤ b ∧ b ≤ 12) → I1 a b = I a b := fun a b g1 g2 => by
          rw [← hI1, ms_o (by omega), ms_o (by omega), ms_o (by omega), hlow a b g1]
        generalize hI2 : ms I1 230 0 (nI n) = I2
        have f2 : ∀ a b, ¬ (192 ≤ a ∧ a ≤ 195) → ¬ (a = 0 ∧ 10 ≤ b ∧ b ≤ 12) → a ≠ 230 → I2 a b = I a b := fun a b g1 g2 g3 => by
          rw [← hI2, ms_o (by omega), f1 a b g1 g2]
        obtain ⟨K, k1, k2, k3⟩ := drafts_M (K := I2) hB hR (hAg I2 fun a b g1 g2 => f2 a b (by omega) (by omega) (by omega)) o9 (show k < 9999 by omega)
        have hKl : K 196 44 = nI n := by have := k2.1; rw [hN] at this; exact this
        have hKd : ∀ i, i < n → K 228 i = nI ((outL I m nb nr k).getD i 0) := fun i hi => k2.2 i (by rw [hN]; omega)
        have hKf : ∀ a b, ¬ (a = 196 ∧ b = 44) → a ≠ 228 → ¬ (192 ≤ a ∧ a ≤ 195) → ¬ (a = 0 ∧ 10 ≤ b ∧ b ≤ 12) → a ≠ 230 → K a b = I a b := fun a b g1 g2 g3 g4 g5 => by
          rw [k3 a b g1 g2, f2 a b g3 g4 g5]
        -- the reference's
        generalize hK2 : ms (ms (ms K 196 48 0) 196 47 (nI k + 1)) 196 46 (nI n) = K2
        have g44 : K2 196 44 = nI n := by rw [← hK2]; simp [ms_app, hKl]
        obtain ⟨L, l1, l2, l3⟩ := copy_M (K := K2) (f := fun i => (outL I m nb nr k).getD i 0) hlen g44 (fun i hi => ⟨by have := hL.at (i := i) (by rw [hN]; exact hi); omega, by rw [← hK2, ms_o (by omega), ms_o (by omega), ms_o (by omega)]; exact hKd i hi⟩)
        have c2 : m_X12_write 196 I2 = some (nI n, L) := by
          have y1 : I2 196 23 = 1 := by rw [f2 _ _ (by omega) (by omega) (by omega), h4]
          have y2 : I2 196 47 = nI k := by rw [f2 _ _ (by omega) (by omega) (by omega), o9]
          have y3 : ¬ (20 : Int32) < nI (cntL I m nb nr) := nI_nlt (a := 20) hok.1 (by omega)
          have y4 : ¬ (300 : Int32) < nI n := nI_nlt (a := 300) hlen (by omega)
          have y5 : K 196 47 = nI k := by rw [hKf _ _ (by omega) (by omega) (by omega) (by omega) (by omega), o9]
          have y6 : L 196 46 = nI n := by rw [l3 _ _ (by omega), ← hK2]; simp [ms_app]
          have y7 : ms (ms (ms K 196 48 0) 196 47 (nI k + 1)) 196 46 (nI n) = K2 := hK2
          rw [nI_1] at y7
          simp [m_X12_write, y1, y2, z2, k1, y3, hKl, y4, m_X12_write_j41, m_X12_write_j52, m_X12_isFine, bnd, ms_app, y5, nI_1, y7, l1, y6]
        refine opA_ok (v := nI n) c1 (by rw [hI2]; exact c2) ?_ ?_ ?_
        · rw [l3 _ _ (by omega), ← hK2]; simp [ms_app]
        · rw [l3 _ _ (by omega), ← hK2, ms_o (by omega), ms_o (by omega), ms_o (by omega), k3 _ _ (by omega) (by omega), ← hI2, ms_s rfl rfl]
        · have hLf : ∀ a b, ¬ (a = 196 ∧ 44 ≤ b) → a ≠ 228 → a ≠ 229 → a ≠ 230 → L a b = I1 a b := fun a b g1 g2 g3 g4 => by
            rw [l3 a b g3, ← hK2, ms_o (by omega), ms_o (by omega), ms_o (by omega), k3 a b (by omega) g2, ← hI2, ms_o (by omega)]
          refine hI.outp (m := d) (d := o) (wl := n) (k := k + 1) (fun a b g => by rw [hLf a b (by omega) (by omega) (by omega) (by omega), f1 a b (by omega) (by omega)]) ?_
          refine ⟨by omega, ?_, ?_, hlen, ?_, ?_, fun i hi => ⟨(outL I m nb nr k).getD i 0, (hL.at (by rw [hN]; exact hi)).1, (hL.at (by rw [hN]; exact hi)).2, ?_, l2 i hi⟩, by omega, ?_, ?_⟩
          · rw [hLf _ _ (by omega) (by omega) (by omega) (by omega), ← hI1]; simp [ms_app]
          · rw [hLf _ _ (by omega) (by omega) (by omega) (by omega), ← hI1]; simp [ms_app]
          · rw [hLf _ _ (by omega) (by omega) (by omega) (by omega), ← hI1, ms_o (by omega), ms_o (by omega), ms_o (by omega), hJ1]
          · rw [l3 _ _ (by omega), ← hK2, ms_s rfl rfl]
          · rw [hLf _ _ (by omega) (by omega) (by omega) (by omega), ← hI1, ms_o (by omega), ms_o (by omega), ms_o (by omega)]
            exact j2.2.2 i (by rw [hN]; omega)
          · rw [hLf _ _ (by omega) (by omega) (by omega) (by omega), ← hI1]; simp [ms_app, nI_1]
          · rw [l3 _ _ (by omega), ← hK2]; simp [ms_app, nI_1]
      · have hfl : bz (decide (cntL I m nb nr ≤ 20 ∧ (outL I m nb nr k).length ≤ 300)) = 0 := by simp [bz]; omega
        rw [hfl] at j1
        have c1 : m_X11_write 0 I = some (.inr 1, J) := by
          simp [m_X11_write, m_X11_needMessage, h3, obx, m_X11_write_j4, o8, z1, h1, e1, e2, o2, e3, e4, gd_t, nI_1, j1]
        obtain ⟨K, k1, k2, k3⟩ := drafts_M (K := J) hB hR (hAg J fun a b g1 g2 => hlow a b (by omega)) o9 (show k < 9999 by omega)
        have hlb : (outL I m nb nr k).length < 100000 := by
          have hbl := flat_len (n := nb) (c := 870) (F := bodF I m nr) (fun x hx => by
            have := bodF_len (nr := nr) (hB.2.2.2 x hx) hR.2.2.2
            have := hR.1
            omega)
          have hnl : ∀ n, (numL n).length ≤ 4 := fun n => by unfold numL; split <;> (try split) <;> (try split) <;> simp
          have q1 := hnl (k + 1)
          have q2 := hnl (2 + ((List.range nb).map (bodN I m nr)).sum)
          have q3 := hB.1
          unfold outL
          simp only [List.length_append, List.length_cons, List.length_nil]
          omega
        have c2 : m_X12_write 196 J = some (0, ms K 196 48 1) := by
          have y1 : J 196 23 = 1 := by rw [hlow _ _ (by omega), h4]
          have y2 : J 196 47 = nI k := by rw [hlow _ _ (by omega), o9]
          have y5 : m_X12_write_j40 196 K = some (0, ms K 196 48 1) := by simp [m_X12_write_j40, m_X12_write_j41, m_X12_write_j52, m_X12_isFine, bnd]
          by_cases w : cntL I m nb nr ≤ 20
          · have y3 : ¬ (20 : Int32) < nI (cntL I m nb nr) := nI_nlt (a := 20) w (by omega)
            have y4 : (300 : Int32) < nI (outL I m nb nr k).length := nI_lt (a := 300) (by omega) (by omega)
            simp [m_X12_write, y1, y2, z2, k1, y3, k2.1, y4, y5]
          · have y3 : (20 : Int32) < nI (cntL I m nb nr) := nI_lt (a := 20) (by omega) (by omega)
            simp [m_X12_write, y1, y2, z2, k1, y3, y5]
        refine opA_ex (c := 1) (k := 1) c1 rfl (by decide) c2 (ms_s rfl rfl) ?_
        refine hI.outp (m := o) (d := d) (wl := wl) (k := k) (fun a b g => by rw [ms_o (by omega), k3 a b (by omega) (by omega), hlow a b (by omega)]) ?_
        have hOut : OutP I o d wl k := ⟨ho, o1, o2, o3, o4, o5, o6, o7, o8, o9⟩
        refine hOut.congr fun a b hd => ?_
        unfold DOut at hd
        rw [ms_o (by omega), k3 a b (by omega) (by omega), j3 a b (by omega) (by omega)]
