/-! writing the accepted message -/
def OuT (I : Mem) (u : Nat) (L : List Nat) : Prop := L.length ≤ 300 ∧ I u 1 = nI L.length ∧ ∀ i, i < L.length → 32 ≤ L.getD i 0 ∧ L.getD i 0 ≤ 126 ∧ I (u + 1) i = nI (L.getD i 0)
def relT (q : Nat) : Tk := (decide (q = 43 ∨ q = 39 ∨ q = 63), q)
def wsg (f : Nat) (s : As) : Sgt := ([(false, s.1)], (List.range f).map (fun x => (s.2.getD x []).map relT))
theorem relT_1 (q : Nat) : tk1 (relT q) = rel q := by
  unfold tk1 relT rel
  by_cases h : q = 43 ∨ q = 39 ∨ q = 63
  · simp [h]
  · simp [h]
theorem enc_rel (l : List Nat) : enc (l.map relT) = l.flatMap rel := by
  unfold enc
  rw [List.flatMap_map]
  congr 1
  funext q
  exact relT_1 q
theorem lts_rel (l : List Nat) : lts (l.map relT) = l := by
  unfold lts
  rw [List.map_map]
  exact List.map_id l
theorem range_get (l : List Nat) : (List.range l.length).map (fun x => l.getD x 0) = l := by
  apply List.ext_getElem?
  intro i
  by_cases h : i < l.length
  · simp [h, List.getD_eq_getElem?_getD]
  · rw [List.getElem?_eq_none (by simpa using h), List.getElem?_eq_none (by omega)]
theorem range_fl (l : List Nat) (F : Nat → List Nat) : (List.range l.length).flatMap (fun x => F (l.getD x 0)) = l.flatMap F := by
  have h := List.flatMap_map (f := fun x => l.getD x 0) (g := F) (l := List.range l.length)
  rw [range_get] at h
  exact h.symm
theorem enc_ws (f : Nat) (s : As) : encS (wsg f s) = s.1 :: ((List.range f).flatMap (fun x => 43 :: (s.2.getD x []).flatMap rel) ++ [39]) := by
  unfold encS wsg encE
  rw [List.flatMap_map]
  simp only [enc_rel]
  rfl
theorem fl_congr {n : Nat} {F G : Nat → List Nat} (h : ∀ x, x < n → F x = G x) : (List.range n).flatMap F = (List.range n).flatMap G := by
  induction n with
  | zero => rfl
  | succ n ih => rw [rf_s, rf_s, ih fun x hx => h x (by omega), h n (by omega)]
/-- the accepted message and the rules, as the walks of writing want them -/
theorem ac_segP {I : Mem} {m s : Nat} {B : List As} (h : AcP I m B) (hs : s < B.length) : SegP I m s := by
  obtain ⟨⟨k1, k2, k3, k4, k5⟩, k6, k7, k8⟩ := h.2.2.2.2.2 s hs
  refine ⟨rfl, ?_, rfl, rfl, (B.getD s zA).2.length, k3, k5.1, k5.1, fun e he => ?_⟩
  · rw [k1]
    exact okc_n' (by have := k2.2; omega)
  · have h5 := (h.2.2.2.2.2 s hs).1
    obtain ⟨w8, wB⟩ := h5.el he
    have e1 := (k5.2 e he).1
    rw [show m + 8 + 3 * s + 2 = m + 10 + 3 * s by omega] at e1
    refine ⟨((B.getD s zA).2.getD e []).length, w8, e1, e1, fun x hx => ?_⟩
    have lb := wB.at hx
    have e2 := (k5.2 e he).2 x hx (by omega)
    rw [show m + 8 + 3 * s + 1 = m + 9 + 3 * s by omega] at e2
    exact ⟨_, lb.1, lb.2, e2, e2⟩
theorem ac_bodP {I : Mem} {m : Nat} {B : List As} (h : AcP I m B) : BodP I m B.length := ⟨by have := h.2.1; omega, h.2.2.2.2.1, h.2.2.2.2.1, fun s hs => ac_segP h hs⟩
theorem rl_rulP {I : Mem} {f r : Nat} (hf : f ≤ 5) (h : RulL I f) (hr : r < 3) : RulP I r := by
  obtain ⟨k1, k2, k3, k4, k5⟩ := h.2 r hr
  refine ⟨rfl, rfl, ⟨65 + r, by omega, by omega, k2⟩, ⟨f, hf, k3, k3, fun x hx => ⟨x, by omega, k5 x hx, k5 x hx⟩⟩, Or.inl ⟨k4, k4⟩⟩
theorem rl_rulsP {I : Mem} {f : Nat} (hf : f ≤ 5) (h : RulL I f) : RulsP I 3 := ⟨by omega, h.1, h.1, fun r hr => rl_rulP hf h hr⟩
theorem sL_eq {I : Mem} {m s e : Nat} {B : List As} (h : AcP I m B) (hs : s < B.length) : sL I m s e = ((B.getD s zA).2.getD e []).length := by
  obtain ⟨⟨k1, k2, k3, k4, k5⟩, k6, k7, k8⟩ := h.2.2.2.2.2 s hs
  unfold sL
  rw [k5.1, nI_clamp (by omega)]
  by_cases he : e < (B.getD s zA).2.length
  · rw [if_pos he]
    have e1 := (k5.2 e he).1
    rw [show m + 8 + 3 * s + 2 = m + 10 + 3 * s by omega] at e1
    have w8 := ((h.2.2.2.2.2 s hs).1.el he).1
    rw [e1, nI_clamp (by omega)]
  · rw [if_neg he]
    have : (B.getD s zA).2.getD e [] = [] := by
      rw [List.getD_eq_getElem?_getD, List.getElem?_eq_none (by omega)]
      rfl
    rw [this]
    rfl
theorem cont_eq {I : Mem} {m s e : Nat} {B : List As} (h : AcP I m B) (hs : s < B.length) : cont I m s e = ((B.getD s zA).2.getD e []).flatMap rel := by
  unfold cont
  have key := range_fl ((B.getD s zA).2.getD e []) rel
  rw [sL_eq h hs, ← key]
  refine fl_congr fun x hx => ?_
  obtain ⟨⟨k1, k2, k3, k4, k5⟩, k6, k7, k8⟩ := h.2.2.2.2.2 s hs
  have he : e < (B.getD s zA).2.length := Nat.lt_of_not_le fun q => by
    have : (B.getD s zA).2.getD e [] = [] := by
      rw [List.getD_eq_getElem?_getD, List.getElem?_eq_none (by omega)]
      rfl
    rw [this] at hx
    simp at hx
  obtain ⟨w8, wB⟩ := (h.2.2.2.2.2 s hs).1.el he
  have lb := wB.at hx
  have e2 := (k5.2 e he).2 x hx (by omega)
  rw [show m + 8 + 3 * s + 1 = m + 9 + 3 * s by omega] at e2
  unfold sQ
  rw [e2, nI_clamp (by omega)]
theorem trn_eq {I : Mem} {m s r f : Nat} {B : List As} (h : AcP I m B) (hf : f ≤ 5) (hR : RulL I f) (hs : s < B.length) (hr : r < 3) : trn I m s r = (65 + r) :: ((List.range f).flatMap (fun x => 43 :: ((B.getD s zA).2.getD x []).flatMap rel) ++ [39]) := by
  obtain ⟨k1, k2, k3, k4, k5⟩ := hR.2 r hr
  unfold trn
  have e1 : rF I r = f := by unfold rF; rw [k3, nI_clamp (by omega)]
  rw [k2, nI_clamp (by omega), e1]
  have e2 : (List.range f).flatMap (fun x => [43] ++ cont I m s (rE I r x)) = (List.range f).flatMap (fun x => 43 :: ((B.getD s zA).2.getD x []).flatMap rel) := by
    refine fl_congr fun x hx => ?_
    have e3 : rE I r x = x := by unfold rE; rw [k5 x hx, nI_clamp (by omega)]
    rw [e3, cont_eq h hs]
    rfl
  rw [e2]
  rfl
theorem apl_eq {I : Mem} {m s r f : Nat} {B : List As} (h : AcP I m B) (hR : RulL I f) (hs : s < B.length) (hr : r < 3) : apl I m s r = decide ((B.getD s zA).1 = 65 + r) := by
  obtain ⟨⟨k1, k2, k3, k4, k5⟩, k6, k7, k8⟩ := h.2.2.2.2.2 s hs
  obtain ⟨l1, l2, l3, l4, l5⟩ := hR.2 r hr
  have hT := k2.1
  have hT2 := k2.2
  unfold apl
  rw [k6, l1, l4]
  have e : (nI ((B.getD s zA).1 - 65) = nI r) = ((B.getD s zA).1 = 65 + r) := by
    refine propext ⟨fun q => ?_, fun q => ?_⟩
    · have := (nI_eq (by omega) (by omega)).mp q
      omega
    · rw [q, show 65 + r - 65 = r by omega]
  have d : decide ((-1 : Int32) = -1) = true := by decide
  rw [d, Bool.true_or, Bool.and_true]
  exact decide_eq_decide.mpr (iff_of_eq e)
theorem body_eq {I : Mem} {m s f : Nat} {B : List As} (h : AcP I m B) (hf : f ≤ 5) (hR : RulL I f) (hs : s < B.length) : bodF I m 3 s = encS (wsg f (B.getD s zA)) ∧ bodN I m 3 s = 1 := by
  have hT := (h.2.2.2.2.2 s hs).1.2.1
  obtain ⟨h1, h2⟩ := hT
  have e0 : ∀ r, r < 3 → segF I m s r = if (B.getD s zA).1 = 65 + r then encS (wsg f (B.getD s zA)) else [] := fun r hr => by
    unfold segF
    rw [apl_eq h hR hs hr]
    by_cases z : (B.getD s zA).1 = 65 + r
    · rw [decide_eq_true z, if_pos rfl, if_pos z, trn_eq h hf hR hs hr, enc_ws, z]
    · rw [decide_eq_false z, if_neg Bool.false_ne_true, if_neg z]
  have e1 : ∀ r, r < 3 → segN I m s r = if (B.getD s zA).1 = 65 + r then 1 else 0 := fun r hr => by
    unfold segN
    rw [apl_eq h hR hs hr]
    by_cases z : (B.getD s zA).1 = 65 + r
    · rw [decide_eq_true z, if_pos rfl, if_pos z]
    · rw [decide_eq_false z, if_neg Bool.false_ne_true, if_neg z]
  have r3 : List.range 3 = [0, 1, 2] := by decide
  generalize hg : B.getD s zA = S at h1 h2 e0 e1 ⊢
  constructor
  · unfold bodF
    rw [r3]
    simp only [List.flatMap_cons, List.flatMap_nil, e0 0 (by omega), e0 1 (by omega), e0 2 (by omega)]
    rcases (show S.1 = 65 ∨ S.1 = 66 ∨ S.1 = 67 by omega) with z | z | z <;> simp [z]
  · unfold bodN
    rw [r3]
    simp only [List.map_cons, List.map_nil, e1 0 (by omega), e1 1 (by omega), e1 2 (by omega)]
    rcases (show S.1 = 65 ∨ S.1 = 66 ∨ S.1 = 67 by omega) with z | z | z <;> simp [z]
theorem sum_1 {n : Nat} {F : Nat → Nat} (h : ∀ x, x < n → F x = 1) : ((List.range n).map F).sum = n := by
  induction n with
  | zero => rfl
  | succ n ih =>
    rw [List.range_succ, List.map_append, List.sum_append, ih fun x hx => h x (by omega)]
    simp [h n (by omega)]
theorem range_gl {α : Type} {l : List α} {z : α} {F : α → List Nat} : (List.range l.length).flatMap (fun x => F (l.getD x z)) = l.flatMap F := by
  have e : (List.range l.length).map (fun x => l.getD x z) = l := by
    apply List.ext_getElem?
    intro i
    by_cases h : i < l.length
    · simp [h, List.getD_eq_getElem?_getD]
    · rw [List.getElem?_eq_none (by simpa using h), List.getElem?_eq_none (by omega)]
  have h := List.flatMap_map (f := fun x => l.getD x z) (g := F) (l := List.range l.length)
  rw [e] at h
  exact h.symm
theorem num_dg {n : Nat} (h : n ≤ 9) : numL n = dig n := by
  have : ∀ n : Fin 10, numL n.val = dig n.val := by decide
  exact this ⟨n, by omega⟩
theorem out_eq {I : Mem} {m f k : Nat} {B : List As} (h : AcP I m B) (hf : f ≤ 5) (hR : RulL I f) (hk : k < 9) : outL I m B.length 3 k = encM (msT (B.map (wsg f)) (k + 1)) ∧ cntL I m B.length 3 = B.length + 2 := by
  have hl := h.2.1
  have e1 : (List.range B.length).flatMap (bodF I m 3) = (B.map (wsg f)).flatMap encS := by
    rw [List.flatMap_map]
    have := range_gl (l := B) (z := zA) (F := fun s => encS (wsg f s))
    rw [← this]
    exact fl_congr fun s hs => (body_eq h hf hR hs).1
  have e2 : ((List.range B.length).map (bodN I m 3)).sum = B.length := sum_1 fun s hs => (body_eq h hf hR hs).2
  constructor
  · unfold outL
    rw [e1, e2, enc_ms, num_dg (n := k + 1) (by omega), num_dg (n := 2 + B.length) (by omega), List.length_map, Nat.add_comm 2]
    simp
  · unfold cntL
    rw [e2, Nat.add_comm]
/-- contents of at most 4 letters -/
def Sm (B : List As) : Prop := ∀ s ∈ B, ∀ w ∈ s.2, w.length ≤ 4
theorem Sm.at {B : List As} (h : Sm B) {s e : Nat} (hs : s < B.length) : ((B.getD s zA).2.getD e []).length ≤ 4 := by
  have hm : B.getD s zA ∈ B := by
    rw [List.getD_eq_getElem?_getD, List.getElem?_eq_getElem hs]
    exact List.getElem_mem hs
  generalize B.getD s zA = S at hm ⊢
  by_cases he : e < S.2.length
  · refine h _ hm _ ?_
    rw [List.getD_eq_getElem?_getD, List.getElem?_eq_getElem he]
    exact List.getElem_mem he
  · rw [List.getD_eq_getElem?_getD, List.getElem?_eq_none (by omega)]
    simp
theorem rel_fl {l : List Nat} : (l.flatMap rel).length ≤ 2 * l.length := by
  induction l with
  | nil => simp
  | cons c l ih =>
    have := rel_len c
    rw [List.flatMap_cons, List.length_append, List.length_cons]
    omega
theorem ws_len {f : Nat} {s : As} (hf : f ≤ 5) (h : ∀ x, (s.2.getD x []).length ≤ 4) : (encS (wsg f s)).length ≤ 47 := by
  have h2 := flat_len (n := f) (c := 9) (F := fun x => 43 :: (s.2.getD x []).flatMap rel) (fun x _ => by
    have h3 := h x
    have h4 := rel_fl (l := s.2.getD x [])
    simp only [List.length_cons]
    omega)
  rw [enc_ws, List.length_cons, List.length_append, List.length_singleton]
  omega
theorem fl_len {α : Type} {F : α → List Nat} {c : Nat} : ∀ (l : List α), (∀ x ∈ l, (F x).length ≤ c) → (l.flatMap F).length ≤ l.length * c := by
  intro l
  induction l with
  | nil => intro _; simp
  | cons a l ih =>
    intro h
    have h1 := ih fun x hx => h x (by simp [hx])
    have h2 := h a (by simp)
    rw [List.flatMap_cons, List.length_append, List.length_cons, Nat.add_mul]
    omega
theorem out_len {f c : Nat} {B : List As} (hf : f ≤ 5) (hl : B.length ≤ 4) (hS : Sm B) (hc : c ≤ 9) : (encM (msT (B.map (wsg f)) c)).length ≤ 300 := by
  have h1 : ((B.map (wsg f)).flatMap encS).length ≤ B.length * 47 := by
    rw [List.flatMap_map]
    refine fl_len B fun s hs => ws_len hf fun x => ?_
    by_cases he : x < s.2.length
    · refine hS s hs _ ?_
      rw [List.getD_eq_getElem?_getD, List.getElem?_eq_getElem he]
      exact List.getElem_mem he
    · rw [List.getD_eq_getElem?_getD, List.getElem?_eq_none (by omega)]
      simp
  have hD := dig_len (n := c)
  have hN := dig_len (n := B.length + 2)
  rw [enc_ms, List.length_map]
  simp only [List.length_cons, List.length_append, List.length_nil]
  omega
theorem write_ok {I : Mem} {f m d u v k lc : Nat} {hc : Bool} {B : List As} {W : List Nat} (h : ST I f m d u v k hc lc) (hA : AcP I m B) (hT : TxL I W) (hS : Sm B) (hk : k < 9) :
    ∃ I', m_X11_write 0 I = some (nI (encM (msT (B.map (wsg f)) (k + 1))).length, I') ∧ ST I' f m d v u (k + 1) hc lc ∧ AcP I' m B ∧ TxL I' W ∧ OuT I' v (encM (msT (B.map (wsg f)) (k + 1))) := by
  obtain ⟨hBas, ⟨hm, a1, a2⟩, ⟨c1, c2⟩, ho, o1, o2, o3⟩ := h
  obtain ⟨hf5, hC, hN, hR⟩ := hBas
  obtain ⟨x1, x2⟩ := out_eq (k := k) hA hf5 hR hk
  have hlen := out_len (c := k + 1) hf5 hA.2.1 hS (by omega)
  have hLtr := Ltr_out (k := k) (ac_bodP hA) (rl_rulsP hf5 hR)
  rw [x1] at hLtr
  obtain ⟨J, j1, j2, j3⟩ := trans_C (d := v) (d' := d) (k := k) (by omega) hm (ac_bodP hA) (rl_rulsP hf5 hR) (by omega)
  rw [x1, x2] at j1
  rw [x1] at j2
  obtain ⟨L, hL⟩ : ∃ L, L = encM (msT (B.map (wsg f)) (k + 1)) := ⟨_, rfl⟩
  rw [← hL] at j1 j2 hlen hLtr ⊢
  have hl4 := hA.2.1
  have hfl : bz (decide (B.length + 2 ≤ 20 ∧ L.length ≤ 300)) = 1 := by
    rw [decide_eq_true ⟨by omega, hlen⟩]
    rfl
  rw [hfl] at j1
  have hmin : min L.length 300 = L.length := by omega
  have hlow : ∀ a b, ¬ (192 ≤ a ∧ a ≤ 195) → J a b = I a b := fun a b q => j3 a b (by omega) (by omega)
  have J1 : J v 1 = nI L.length := by have := j2.1; rw [hmin] at this; exact this
  have y1 : J 0 12 = nI k := by rw [hlow _ _ (by omega), o3]
  have y2 : J 0 10 = nI u := by rw [hlow _ _ (by omega), o1]
  have y3 : J 0 11 = nI v := by rw [hlow _ _ (by omega), o2]
  have z1 : nI k < 9999 := nI_lt (b := 9999) (by omega) (by omega)
  have hn := ac_need hA
  have hmm := ac_msg hA
  have e3 : (nI v).toNatClampNeg = v := nI_clamp (by omega)
  have e3' : (nI u).toNatClampNeg = u := nI_clamp (by omega)
  have e4 := (io_sh ho).2
  have e4' := (io_sh ho).1
  obtain ⟨I', hI'⟩ : ∃ I', I' = ms (ms (ms J 0 12 (nI (k + 1))) 0 10 (nI v)) 0 11 (nI u) := ⟨_, rfl⟩
  have fr : ∀ a b, ¬ (a = 0 ∧ 10 ≤ b ∧ b ≤ 12) → I' a b = J a b := fun a b q => by rw [hI', ms_o (by omega), ms_o (by omega), ms_o (by omega)]
  have cl : m_X11_write 0 I = some (nI L.length, I') := by
    have n10 : ¬ (1 : Int32) = 0 := by decide
    have y4 : ¬ v = 0 := by omega
    rw [hI']
    simp [m_X11_write, hn, o3, z1, a1, hmm.1, hmm.2, o2, e3, e4, gd_t, nI_1, j1, bnd, ms_app, y1, y2, y3, e3', e4', m_X10_count, y4, J1]
  refine ⟨I', cl, ⟨?_, ⟨hm, ?_, ?_⟩, ⟨?_, fun q => ?_⟩, by omega, ?_, ?_, ?_⟩, ?_, ?_, hlen, ?_, fun i hi => ?_⟩
  · exact Bas.fr ⟨hf5, hC, hN, hR⟩ fun a b q => by rw [fr _ _ (by omega), hlow _ _ (by omega)]
  · rw [fr _ _ (by omega), hlow _ _ (by omega), a1]
  · rw [fr _ _ (by omega), hlow _ _ (by omega), a2]
  · rw [fr _ _ (by omega), hlow _ _ (by omega), c1]
  · rw [fr _ _ (by omega), hlow _ _ (by omega), c2 q]
  · rw [hI', ms_o (by omega), ms_s rfl rfl]
  · rw [hI', ms_s rfl rfl]
  · rw [hI', ms_o (by omega), ms_o (by omega), ms_s rfl rfl]
  · exact hA.fr fun a b q => by rw [fr _ _ (by omega), hlow _ _ (by omega)]
  · exact hT.fr fun a b q => by rw [fr _ _ (by omega), hlow _ _ (by omega)]
  · rw [fr _ _ (by omega), J1]
  · have lb := hLtr.at hi
    exact ⟨lb.1, lb.2, by rw [fr _ _ (by omega)]; exact j2.2.2 i (by omega)⟩
theorem written_ok {I : Mem} {u v k : Nat} {L : List Nat} (h : Oz I u v k) (hO : OuT I u L) : m_X11_written 0 I = some (nI L.length) := by
  obtain ⟨ho, o1, o2, o3⟩ := h
  have e3' : (nI u).toNatClampNeg = u := nI_clamp (by omega)
  have e4' := (io_sh ho).1
  simp only [m_X11_written, o1, e3', e4', gd_t, m_X10_count, hO.2.1, Option.bind_some]
theorem letter_ok {I : Mem} {u v k i : Nat} {L : List Nat} (h : Oz I u v k) (hO : OuT I u L) (hi : i < L.length) : m_X11_letter 0 (nI i) I = some (nI (L.getD i 0)) := by
  obtain ⟨ho, o1, o2, o3⟩ := h
  obtain ⟨h1, h2, h3⟩ := hO
  obtain ⟨b1, b2, b3⟩ := h3 i hi
  have e3' : (nI u).toNatClampNeg = u := nI_clamp (by omega)
  have e4' := (io_sh ho).1
  have c0 : ¬ nI i < 0 := nI_pos (by omega)
  have c1 : nI i < nI L.length := nI_lt hi (by omega)
  have ok : okc (nI (L.getD i 0)) = true := okc_n' (by omega)
  have at1 := at_ok (I := I) (g := u) h1 hi h2 b3 (by omega)
  simp only [m_X11_letter, c0, if_false, o1, e3', e4', gd_t, m_X10_count, h2, Option.bind_some, c1, if_true, at1, ok]
