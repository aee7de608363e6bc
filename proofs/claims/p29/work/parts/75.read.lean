/-! reading a message that was fed -/
def RulL (I : Mem) (f : Nat) : Prop := I 38 2 = nI 3 ∧ ∀ r, r < 3 → I (42 + 2 * r) 1 = nI r ∧ I (42 + 2 * r) 2 = nI (65 + r) ∧ I (42 + 2 * r) 3 = nI f ∧ I (42 + 2 * r) 4 = -1 ∧ ∀ x, x < f → I (43 + 2 * r) x = nI x
def Bas (I : Mem) (f : Nat) : Prop := f ≤ 5 ∧ SchC I TT 3 1 false ∧ Non I ∧ RulL I f
def Mz (I : Mem) (m d : Nat) : Prop := ((m = 62 ∧ d = 127) ∨ (m = 127 ∧ d = 62)) ∧ I 0 5 = nI m ∧ I 0 6 = nI d
def Cz (I : Mem) (hc : Bool) (lc : Nat) : Prop := I 0 8 = bz hc ∧ (hc = true → I 0 9 = nI lc)
def Oz (I : Mem) (u v k : Nat) : Prop := ((u = 192 ∧ v = 194) ∨ (u = 194 ∧ v = 192)) ∧ I 0 10 = nI u ∧ I 0 11 = nI v ∧ I 0 12 = nI k
def ST (I : Mem) (f m d u v k : Nat) (hc : Bool) (lc : Nat) : Prop := Bas I f ∧ Mz I m d ∧ Cz I hc lc ∧ Oz I u v k
theorem RulL.fr {I I' : Mem} {f : Nat} (h : RulL I f) (hf : ∀ a b, 38 ≤ a ∧ a ≤ 61 → I' a b = I a b) : RulL I' f := by
  obtain ⟨h1, h2⟩ := h
  refine ⟨by rw [hf _ _ (by omega), h1], fun r hr => ?_⟩
  obtain ⟨k1, k2, k3, k4, k5⟩ := h2 r hr
  exact ⟨by rw [hf _ _ (by omega), k1], by rw [hf _ _ (by omega), k2], by rw [hf _ _ (by omega), k3], by rw [hf _ _ (by omega), k4], fun x hx => by rw [hf _ _ (by omega), k5 x hx]⟩
theorem Bas.fr {I I' : Mem} {f : Nat} (h : Bas I f) (hf : ∀ a b, (a = 1 ∧ 4 ≤ b ∧ b ≤ 6) ∨ (6 ≤ a ∧ a ≤ 26) ∨ (38 ≤ a ∧ a ≤ 61) ∨ a = 64 ∨ a = 129 → I' a b = I a b) : Bas I' f := by
  obtain ⟨h1, h2, h3, h4⟩ := h
  exact ⟨h1, h2.congr2 (by omega) (by omega) fun a b q ha => hf a b (by unfold DSch at q; omega), h3.congr fun a b q => hf a b (by unfold DNon at q; omega), h4.fr fun a b q => hf a b (by omega)⟩
/-- feeding changes the text alone -/
theorem ST.t {I I' : Mem} {f m d u v k lc : Nat} {hc : Bool} (h : ST I f m d u v k hc lc) (hf : FrT I I') : ST I' f m d u v k hc lc := by
  obtain ⟨h1, ⟨h2, h3, h4⟩, ⟨h5, h6⟩, h7, h8, h9, h10⟩ := h
  exact ⟨h1.fr fun a b q => hf a b (by omega) (by omega), ⟨h2, by rw [hf _ _ (by omega) (by omega), h3], by rw [hf _ _ (by omega) (by omega), h4]⟩, ⟨by rw [hf _ _ (by omega) (by omega), h5], fun q => by rw [hf _ _ (by omega) (by omega), h6 q]⟩, h7, by rw [hf _ _ (by omega) (by omega), h8], by rw [hf _ _ (by omega) (by omega), h9], by rw [hf _ _ (by omega) (by omega), h10]⟩
theorem gmap {α β : Type} {f : α → β} {l : List α} {i : Nat} {z : α} : (l.map f).getD i (f z) = f (l.getD i z) := by
  simp only [List.getD_eq_getElem?_getD, List.getElem?_map]
  cases l[i]? <;> rfl
theorem lts_dg (n : Nat) : lts (dgT n) = dig n := by
  unfold lts dgT dig
  split <;> rfl
theorem num_dig {n : Nat} (h : n ≤ 99) : num (dig n) = some n := by
  have : ∀ n : Fin 100, num (dig n.val) = some n.val := by decide +kernel
  exact this ⟨n, by omega⟩
theorem TkO.dg {n : Nat} (h : n ≤ 99) : TkO (dgT n) := by
  intro k hk
  unfold dgT dig at hk
  split at hk
  · simp at hk
    subst hk
    simp
    omega
  · simp at hk
    rcases hk with rfl | rfl
    · simp
      omega
    · simp
      omega
theorem dgT_len {n : Nat} : (dgT n).length ≤ 2 := by unfold dgT; rw [List.length_map]; exact dig_len.1
theorem SgO_hd {c : Nat} (h : c ≤ 99) : SgO (hdT c) := by
  refine ⟨?_, show okt [72] = true from by decide, by simp [hdT], ?_, ?_⟩
  · intro k hk
    have : k = (false, 72) := by simpa [hdT] using hk
    subst this
    simp
  · intro K hK
    have : K = dgT c := by simpa [hdT] using hK
    subst this
    exact TkO.dg h
  · intro K hK
    have : K = dgT c := by simpa [hdT] using hK
    subst this
    exact Nat.le_trans dgT_len (by omega)
theorem SgO_tr {n c : Nat} (hn : n ≤ 99) (h : c ≤ 99) : SgO (trT n c) := by
  refine ⟨?_, show okt [84] = true from by decide, by simp [trT], ?_, ?_⟩
  · intro k hk
    have : k = (false, 84) := by simpa [trT] using hk
    subst this
    simp
  · intro K hK
    have : K = dgT n ∨ K = dgT c := by simpa [trT] using hK
    rcases this with rfl | rfl
    · exact TkO.dg hn
    · exact TkO.dg h
  · intro K hK
    have : K = dgT n ∨ K = dgT c := by simpa [trT] using hK
    rcases this with rfl | rfl <;> exact Nat.le_trans dgT_len (by omega)
def asO (s : Sgt) : As := (tgC (lts s.1), s.2.map lts)
def tgO (B : List Sgt) : List Nat := B.map (fun s => tgC (lts s.1))
theorem tgs_asO {B : List Sgt} : tgs (B.map asO) = tgO B := by
  unfold tgs tgO
  rw [List.map_map]
  rfl
theorem LB_lts {K : List Tk} (h : TkO K) : LB (lts K) := by
  intro c hc
  unfold lts at hc
  obtain ⟨k, hk, rfl⟩ := List.mem_map.mp hc
  exact ⟨(h k hk).1, (h k hk).2.1⟩
/-- what the class's split makes of the message -/
theorem split_ms {B : List Sgt} {c : Nat} {S : List Sg} (hl : B.length ≤ 4) (hc : c ≤ 99) (hS : S.map (fun S => S.2) = (msT B c).map valS) :
    S.length = B.length + 2 ∧ envF S = [] ∧ (∀ (hc1 : Bool) (lc : Int32), (hc1 = true → nI c = lc + 1) → numF hc1 lc S = []) ∧ gS S = gt (tgO B) ∧ (∀ s, s < B.length → (S.getD (s + 1) zS).2 = valS (B.getD s ([], []))) ∧ nmE (hdS S) 0 = nI c := by
  have hlen : S.length = B.length + 2 := by
    have := congrArg List.length hS
    simpa [msT] using this
  have hat : ∀ i, (S.getD i zS).2 = ((msT B c).map valS).getD i ([], []) := fun i => by
    rw [← hS]
    exact (gmap (f := fun S : Sg => S.2) (z := zS)).symm
  have hh : (hdS S).2 = ([72], [dig c]) := by
    unfold hdS
    rw [hat 0]
    show valS (hdT c) = _
    unfold valS hdT
    simp [lts_dg]
    rfl
  have hb : ∀ p, ((msT B c).map valS).getD (p + 1) ([], []) = (B.map valS ++ [valS (trT (B.length + 2) c)]).getD p ([], []) := fun p => by
    unfold msT
    rw [List.map_cons, List.map_append]
    simp [List.getD_eq_getElem?_getD]
  have hls : (lsS S).2 = ([84], [dig (B.length + 2), dig c]) := by
    unfold lsS
    rw [hlen, show B.length + 2 - 1 = B.length + 1 by omega, hat, hb]
    have : (B.map valS ++ [valS (trT (B.length + 2) c)]).getD B.length ([], []) = valS (trT (B.length + 2) c) := by
      simp [List.getD_eq_getElem?_getD]
    rw [this]
    unfold valS trT
    simp [lts_dg]
    rfl
  have n1 := num_dig hc
  have n2 := num_dig (n := B.length + 2) (by omega)
  have ev1 : isEv (hdS S) 72 1 = true := by
    unfold isEv
    rw [hh]
    simp [n1]
    decide
  have ev2 : isEv (lsS S) 84 2 = true := by
    unfold isEv
    rw [hls]
    simp [n1, n2]
    decide
  have nh : nmE (hdS S) 0 = nI c := by
    unfold nmE
    rw [hh]
    simp [n1, nmv]
  have nl0 : nmE (lsS S) 0 = nI (B.length + 2) := by
    unfold nmE
    rw [hls]
    simp [n2, nmv]
  have nl1 : nmE (lsS S) 1 = nI c := by
    unfold nmE
    rw [hls]
    simp [n1, nmv]
  refine ⟨hlen, ?_, fun hc1 lc hq => ?_, ?_, fun s hs => ?_, nh⟩
  · unfold envF
    rw [ev1, ev2, decide_eq_true (show 0 < S.length by omega), decide_eq_true (show 2 ≤ S.length by omega)]
    rfl
  · unfold numF
    rw [nh, nl0, nl1, hlen]
    have : ¬ (hc1 = true ∧ ¬ nI c = lc + 1) := fun ⟨a, b⟩ => b (hq a)
    rw [if_neg this, if_pos rfl, if_pos rfl]
    rfl
  · funext p
    unfold gS gt
    rw [hat, hb]
    have e1 := gmap (f := fun x : List Nat × List (List Nat) => tgC x.1) (l := B.map valS ++ [valS (trT (B.length + 2) c)]) (i := p) (z := ([], []))
    rw [← e1, List.map_append, List.map_map]
    rfl
  · rw [hat, hb]
    have e2 : (B.map valS ++ [valS (trT (B.length + 2) c)]).getD s ([], []) = (B.map valS).getD s ([], []) := by
      simp only [List.getD_eq_getElem?_getD]
      rw [List.getElem?_append_left (by simpa using hs)]
    rw [e2]
    exact gmap (f := valS) (z := (([], []) : Sgt))
theorem read_ok {I : Mem} {f m d u v k lc c : Nat} {hc : Bool} {B : List Sgt} (h : ST I f m d u v k hc lc) (hT : TxL I (encM (msT B c))) (hB : ∀ s ∈ B, SgO s ∧ T3 (tgC (lts s.1))) (hl : B.length ≤ 4) (hc99 : c ≤ 99) (hseq : hc = true → c = lc + 1) :
    ∃ I', m_X11_read 0 I = some (0, I') ∧ ST I' f d m u v k true c ∧ TxL I' [] ∧ AcP I' d (B.map asO) ∧ ∀ a b, 192 ≤ a → I' a b = I a b := by
  obtain ⟨hBas, ⟨hm, a1, a2⟩, ⟨c1, c2⟩, ho, o1, o2, o3⟩ := h
  obtain ⟨hf5, hC, hN, hR⟩ := hBas
  have hd : d = 62 ∨ d = 127 := by omega
  have hM : ∀ s ∈ msT B c, SgO s := by
    intro s hs
    unfold msT at hs
    rw [List.mem_cons, List.mem_append, List.mem_singleton] at hs
    rcases hs with rfl | hs | rfl
    · exact SgO_hd hc99
    · exact (hB s hs).1
    · exact SgO_tr (by omega) hc99
  obtain ⟨W, hW⟩ : ∃ W, W = encM (msT B c) := ⟨_, rfl⟩
  rw [← hW] at hT
  have htat : Tat (fun i => W.getD i 0) 0 (encM (msT B c)) := by
    rw [← hW]
    exact Tat.of W 0 fun i hi => by rw [Nat.zero_add]
  obtain ⟨S, hSS⟩ : ∃ S, S = spS (fun i => W.getD i 0) W.length 20 0 := ⟨_, rfl⟩
  obtain ⟨F0, hFF⟩ : ∃ F0, F0 = spF (fun i => W.getD i 0) W.length 20 0 := ⟨_, rfl⟩
  obtain ⟨s1, s2⟩ := spS_enc (n := W.length) (msT B c) 20 0 (by simp [msT]; omega) hM htat (by rw [hW, Nat.zero_add])
  rw [← hSS] at s1
  rw [← hFF] at s2
  obtain ⟨q1, q2, q3, q4, q5, q6⟩ := split_ms hl hc99 s1
  have q3' := q3 hc (I 0 9) (fun z => by rw [c2 z, hseq z, nI_1])
  obtain ⟨r, J, F, p1, p2, p3, p4, p5, p6⟩ := readC (hc := hc) (lc := I 0 9) hT.c hC TT_SF TT_EO hN hd hSS hFF
  have htl : (tgO B).length = B.length := by simp [tgO]
  have htT : ∀ x ∈ tgO B, T3 x := by
    intro x hx
    unfold tgO at hx
    obtain ⟨s, hs, rfl⟩ := List.mem_map.mp hx
    exact (hB s hs).2
  obtain ⟨w1, w2⟩ := W_ok (ts := tgO B) (by omega) htT
  have hn2 : S.length - 2 = B.length := by omega
  have hF : F = [] := by
    rcases p2.2.2.2 s2 q2 q3' with ⟨_, z⟩ | ⟨z, _⟩
    · exact z
    · rw [hn2, q4, ← htl] at z
      exact absurd w1 z
  rcases p6 with ⟨z, _⟩ | ⟨_, f2, f3, f4, f5, f6⟩
  · exact absurd hF z
  · subst hF
    subst f2
    rw [hn2, q4, ← htl] at f6
    have v1 : (nI d).toNatClampNeg = d := nI_clamp (by omega)
    have v1' : (nI m).toNatClampNeg = m := nI_clamp (by omega)
    have io : iO d 4 = true := io_msg (m := d) (d := m) (by omega)
    have io' : iO m 4 = true := io_msg hm
    have ok0 : okz 0 = true := by decide
    have h3 : I 1 6 = 0 := hC.2.2.1
    rw [← c1] at p1
    have hlS : S.length ≤ 20 := by omega
    have j05 : J 0 5 = nI m := by rw [p5 _ _ (by omega) (by omega) (by omega) (by omega) (by omega), a1]
    have j06 : J 0 6 = nI d := by rw [p5 _ _ (by omega) (by omega) (by omega) (by omega) (by omega), a2]
    obtain ⟨J6, hJ6⟩ : ∃ J6, J6 = ms (ms (ms (ms J 0 5 (nI d)) 0 6 (nI m)) 0 7 1) 0 8 1 := ⟨_, rfl⟩
    have j65 : J6 0 5 = nI d := by rw [hJ6, ms_o (by omega), ms_o (by omega), ms_o (by omega), ms_s rfl rfl]
    have m6 : MsC J6 d S := ⟨by rw [hJ6, ms_o (by omega), ms_o (by omega), ms_o (by omega), ms_o (by omega), f5.1], fun i hi => (f5.2 i hi).g fun a b q => by rw [hJ6, ms_o (by omega), ms_o (by omega), ms_o (by omega), ms_o (by omega)]⟩
    have hKh : SgK (hdS S) := by
      have hK : ∀ s ∈ S, SgK s := fun s hs => ⟨by rw [hSS] at hs; exact spS_B (fun i hi => ⟨(hT.c.2.2 i hi).1, (hT.c.2.2 i hi).2.1⟩) 20 0 s hs, by rw [hSS] at hs; exact spF_nil 20 0 (by rw [← hFF]; exact s2) s hs⟩
      exact hK _ (getD_memS (by omega))
    have lh := (isEv_ok (env_ok f4).2.1).2
    have hcn : m_X4_headerControl d J6 = some (nI c) := by
      have at0 : m_X4_at d (0 : Int32) J6 = some (d + 5 + 3 * 0) := msgAt m6 hlS (show 0 < S.length by omega)
      have n0 : m_X9_numberIn (d + 5 + 3 * 0) (0 : Int32) J6 = some (nmE (hdS S) 0) := hKh.nC (m6.2 0 (by omega)) (j := 0) (by omega)
      rw [q6] at n0
      simp only [m_X4_headerControl, at0, Option.bind_some, io_sg hd (show 0 < 20 by omega), gd_t, n0]
    obtain ⟨J2, hJ2⟩ : ∃ J2, J2 = ms (ms (ms J6 0 9 (nI c)) 27 1 0) 27 2 0 := ⟨_, rfl⟩
    have jF : ∀ a b, a ≠ 27 → ¬ (a = 0 ∧ 5 ≤ b ∧ b ≤ 9) → J2 a b = J a b := fun a b q q2 => by rw [hJ2, ms_o (by omega), ms_o (by omega), ms_o (by omega), hJ6, ms_o (by omega), ms_o (by omega), ms_o (by omega), ms_o (by omega)]
    have tot : ∀ a b, ¬ (29 ≤ a ∧ a ≤ 31) → ¬ (34 ≤ a ∧ a ≤ 37) → ¬ (a = 33 ∧ b = 5) → ¬ (a = d ∧ b = 2) → ¬ (d + 5 ≤ a ∧ a < d + 65) → a ≠ 27 → ¬ (a = 0 ∧ 5 ≤ b ∧ b ≤ 9) → J2 a b = I a b := fun a b h1 h2 h3 h4 h5 h6 h7 => by rw [jF a b h6 h7, p5 a b h1 h2 h3 h4 h5]
    have cl : m_X11_read 0 I = some (0, J2) := by
      have n10 : ¬ (1 : Int32) = 0 := by decide
      have j65' : ms (ms (ms (ms J 0 5 (nI d)) 0 6 (nI m)) 0 7 1) 0 8 1 0 5 = nI d := by rw [← hJ6]; exact j65
      rw [hJ6] at hcn
      have cn : ms (ms (ms (ms (ms (ms (ms J 0 5 (nI d)) 0 6 (nI m)) 0 7 1) 0 8 1) 0 9 (nI c)) 27 1 0) 27 2 0 29 2 = 0 := by rw [← hJ6, ← hJ2, jF _ _ (by omega) (by omega), p3.1]; rfl
      simp only [m_X11_read, Nat.reduceAdd, m_X8_isLoopOpen, h3, ok0, gd_t, Option.bind_some, if_true, a2, v1, io, p1, n10, if_false, m_X11_acceptDraft, j05, j06, v1', io', bnd, j65', hcn, m_X11_read_j50, m_X10_wipe, m_X1_count, cn, hJ2, hJ6]
    refine ⟨J2, cl, ⟨?_, ⟨by omega, ?_, ?_⟩, ⟨?_, fun _ => ?_⟩, ho, ?_, ?_, ?_⟩, ⟨by simp, ?_, fun i hi => absurd hi (by simp)⟩, ?_, fun a b ha => tot a b (by omega) (by omega) (by omega) (by omega) (by omega) (by omega) (by omega)⟩
    · exact Bas.fr ⟨hf5, hC, hN, hR⟩ fun a b q => tot a b (by omega) (by omega) (by omega) (by omega) (by omega) (by omega) (by omega)
    · rw [hJ2, ms_o (by omega), ms_o (by omega), ms_o (by omega), j65]
    · rw [hJ2, ms_o (by omega), ms_o (by omega), ms_o (by omega), hJ6, ms_o (by omega), ms_o (by omega), ms_s rfl rfl]
    · rw [hJ2, ms_o (by omega), ms_o (by omega), ms_o (by omega), hJ6, ms_s rfl rfl, bz_t]
    · rw [hJ2, ms_o (by omega), ms_o (by omega), ms_s rfl rfl]
    · rw [tot _ _ (by omega) (by omega) (by omega) (by omega) (by omega) (by omega) (by omega), o1]
    · rw [tot _ _ (by omega) (by omega) (by omega) (by omega) (by omega) (by omega) (by omega), o2]
    · rw [tot _ _ (by omega) (by omega) (by omega) (by omega) (by omega) (by omega) (by omega), o3]
    · rw [hJ2, ms_o (by omega), ms_s rfl rfl]
      rfl
    · refine ⟨⟨m, by omega⟩, by rw [List.length_map]; exact hl, ?_, ?_, ?_, fun s hs => ?_⟩
      · rw [hJ2, ms_o (by omega), ms_o (by omega), ms_o (by omega), j65]
      · rw [hJ2, ms_o (by omega), ms_o (by omega), ms_o (by omega), hJ6, ms_o (by omega), ms_s rfl rfl]
      · rw [jF _ _ (by omega) (by omega), f5.1, q1, List.length_map]
      · rw [List.length_map] at hs
        have e0 : (B.map asO).getD s zA = asO (B.getD s ([], [])) := by
          rw [List.getD_eq_getElem?_getD, List.getElem?_map, List.getD_eq_getElem?_getD, List.getElem?_eq_getElem hs]
          rfl
        have hmem : B.getD s ([], []) ∈ B := by
          rw [List.getD_eq_getElem?_getD, List.getElem?_eq_getElem hs]
          exact List.getElem_mem hs
        obtain ⟨b1, b2⟩ := hB _ hmem
        obtain ⟨t1, t2, t3, t4, t5⟩ := b1
        obtain ⟨g1, g2, g3⟩ := f5.2 (s + 1) (by omega)
        have e1 := q5 s hs
        rw [show S.getD (s + 1) (0, [], []) = S.getD (s + 1) zS from rfl, e1] at g2 g3
        rw [show d + 5 + 3 * (s + 1) = d + 8 + 3 * s by omega] at g2 g3
        have hts : IT (tgO B) s / 100 = (tgO B).getD s 0 - 65 := by have := (w2 s (by omega)).1; omega
        have htg : (tgO B).getD s 0 = tgC (lts (B.getD s ([], [])).1) := by
          unfold tgO
          rw [List.getD_eq_getElem?_getD, List.getElem?_map, List.getD_eq_getElem?_getD, List.getElem?_eq_getElem hs]
          rfl
        obtain ⟨y1, y2⟩ := f6 s (by omega)
        rw [e0, tgs_asO]
        refine ⟨⟨?_, b2, by show (List.map lts _).length ≤ 5; rw [List.length_map]; exact t3, fun w hw => ?_, g3.g fun a b q => jF a b (by omega) (by omega)⟩, ?_, ?_, (w2 s (by omega)).2⟩
        · rw [jF _ _ (by omega) (by omega), g2]
          rfl
        · obtain ⟨K, hK, rfl⟩ := List.mem_map.mp hw
          exact ⟨by unfold lts; rw [List.length_map]; exact t5 K hK, LB_lts (t4 K hK)⟩
        · rw [jF _ _ (by omega) (by omega), y1]
          show nI (IT (tgO B) s / 100) = _
          rw [hts, htg]
          rfl
        · rw [jF _ _ (by omega) (by omega), y2]
          rfl
