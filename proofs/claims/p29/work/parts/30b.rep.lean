theorem arrV_ext {c : ClassId} {n : Nat} {f g : Nat → Value} (h : ∀ i, i < n → f i = g i) : arrV c n f = arrV c n g := by
  unfold arrV
  congr 2
  funext j
  exact h j.val j.isLt
theorem I0_arr {k : Nat} (h : (lay k).1 ≠ 0) : I0 k = fun _ => 0 := by
  funext j
  unfold I0
  rw [if_neg (fun q => h (by rw [q.1])), if_neg (fun q => h (by rw [q]; decide))]
theorem at_of {G : Gx} {k : Nat} {a : AC} {H : Heap} (hc : chk k a = true) (h : va_at (Dg G) vwCl (G.1 + k, cellA G a) H) : va_at (Dg G) vwCl (G.1 + k, cellR G (I0 k) k) H := by
  have hI := @I0_arr k
  unfold chk at hc
  unfold cellR
  obtain ⟨t2, c2, fs⟩ := a
  rcases hl : lay k with ⟨t, n, z⟩
  rw [hl] at hc hI
  match t, t2, hc, hI, h with
  | 0, 0, hc, hI, h =>
    obtain ⟨h1, h2⟩ := Bool.and_eq_true_iff.mp hc
    have h1 := of_decide_eq_true h1
    subst h1
    have e : (List.range (nf n)).map (fun j => fvA G n j (fs.getD j 0)) = (List.range (nf n)).map (fV G (I0 k) n k) := by
      refine List.map_congr_left fun j hj => ?_
      have hj2 := List.all_eq_true.mp h2 j hj
      generalize hf : fk n j = x at hj2
      match x, hj2 with
      | 0, hj2 =>
        have := of_decide_eq_true hj2
        simp only [fvA, fV, hf, if_pos, this]
      | 1, hj2 =>
        have := of_decide_eq_true hj2
        simp only [fvA, fV, hf, this]
        rfl
      | x + 2, hj2 =>
        have := of_decide_eq_true hj2
        simp only [fvA, fV, hf, this]
        rfl
    show va_at _ _ (_, .inr (n, _)) _
    rw [← e]
    exact h
  | 1, 1, hc, hI, h =>
    have h1 := of_decide_eq_true hc
    subst h1
    simp only
    rw [hI (by simp)]
    exact h
  | 2, 2, hc, hI, h =>
    have h1 := of_decide_eq_true hc
    subst h1
    simp only
    rw [hI (by simp)]
    exact h
  | 3, 3, hc, hI, h =>
    have h1 := of_decide_eq_true hc
    subst h1
    simp only
    rw [hI (by simp)]
    exact h
  | 4, 4, hc, hI, h =>
    have h1 := of_decide_eq_true hc
    subst h1
    simp only
    rw [hI (by simp)]
    exact h
  | t + 5, t2 + 5, hc, hI, h =>
    obtain ⟨h1, h2⟩ := Bool.and_eq_true_iff.mp hc
    have h1 := of_decide_eq_true h1
    obtain ⟨rfl, rfl⟩ := h1
    show H[G.1 + k]? = some (vp_cell _ _)
    have h : H[G.1 + k]? = some (vp_cell _ (n, .inr (.inr (.inr (.inr (fun i => qA G (fs.getD i 0))))))) := h
    rw [h, vp_cell_q, vp_cell_q]
    congr 1
    refine arrV_ext fun i hi => ?_
    have hj2 := of_decide_eq_true (List.all_eq_true.mp h2 i (List.mem_range.mpr hi))
    rw [hj2]
    simp [qA]
theorem rep_cells {G : Gx} {A : AH} {H : Heap} (h : RepA G A H) (hc : chkA A = true) : ∀ k, k < NN → va_at (Dg G) vwCl (G.1 + k, cellR G (I0 k) k) H := by
  obtain ⟨h1, h2⟩ := Bool.and_eq_true_iff.mp hc
  have h1 := of_decide_eq_true h1
  intro k hk
  exact at_of (List.all_eq_true.mp h2 k (List.mem_range.mpr hk)) (h.2 k _ (wdA_get (by rw [h1]; exact hk)))
/-- the world in which the law makes its second object -/
def snG (G : Gx) : Gx := (G.1 + NN, G.2.1, G.2.2.1, G.2.2.2.1, 1, G.2.2.2.2.2)
theorem KK.sn {G : Gx} {U : State} (h : KK G U) : KK (snG G) U := ⟨h.1, h.2.1, Nat.lt_of_lt_of_le h.2.2.1 (Nat.le_add_right _ _), h.2.2.2⟩
theorem Ab_sn {G : Gx} {q : Nat} (h : Ab (snG G) q) (hn : Gn G = 1) : Ab G q := ⟨Nat.le_trans (Nat.le_add_right _ _) h.1, Or.inr (by rw [hn]; decide)⟩
theorem second {Z : Zx} {A : AH} {b : Nat} (C : Cx Z code 8 RL) (N : CN Z 600130 7301080) (hR : RM Z 13 480) (hn : Gn (zG Z) = 1) (hA : i_X11 0 [(0, 11, List.replicate 13 0)] = some A) (hc : chkA A = true) (hs : szA A = 3743)
    (hK : WM (Zb Z 1000 30000) (mg2 (I0, I0)) 16 [some (.ref b), some (rf (zG Z) 0), some (rf (zG Z) 196), none, none, none, none, none] []) : WN Z 0 0 A 8 [some (.ref b), some (rf (zG Z) 0), none, none, none, none, none, none] [] := by
  intro H locs ls hRA hS hL
  have hlen : A.length = NN := of_decide_eq_true (Bool.and_eq_true_iff.mp hc).1
  have hts := C.ts
  have hKn := C.K.1 11 _ rfl
  have hz : H.size = (snG (zG Z)).1 + 0 := by rw [hRA.1, hlen]; rfl
  have c0 : A.length - 0 = 196 := by rw [hlen]; rfl
  have s0 : szA A - 0 = 3743 := by rw [hs]
  rw [c0, s0]
  refine W.newcK C.x C.b C.ow (hts _ kc_L_10) (hts _ kn_X11) (hts _ kj_X11) rfl dL_law_8 (by show 196 + 1 ≤ (zR Z).cells; rw [N.1]; decide) (by show 3743 + 13 ≤ (zR Z).slots; rw [N.2.1]; decide) hKn.2.1 rfl fun H1 kC hkC e1 z1 o1 => ?_
  have hR0 : RepA (snG (zG Z)) [] H := ⟨hz, fun k q hq => nomatch hq⟩
  have hR1 : RepA (snG (zG Z)) [(0, 11, List.replicate 13 0)] H1 := by
    refine hR0.push (a := (0, 11, List.replicate 13 0)) z1 o1 ?_
    show va_at _ _ ((snG (zG Z)).1 + 0, _) _
    rw [← hz]
    refine ⟨_, rfl, (u_born tyX11 hts inT11 hKn hkC e1 tyX11_ok).to fun j hj => ?_⟩
    simp only [vp_V]
    have hj2 : j < nf 11 := hj
    rw [List.getD_eq_getElem?_getD]
    simp only [List.getElem?_map, List.getElem?_range hj2, Option.map_some, Option.getD_some, fvA]
    have h0 : (List.replicate 13 0).getD j 0 = 0 := by rw [List.getD_eq_getElem?_getD, List.getElem?_replicate]; split <;> rfl
    rw [h0]
    have hdef : ∀ j : Nat, j < 13 → (fk 11 j = 0 ∧ defaultValue (tyX11 j) = .int 0) ∨ (¬ fk 11 j = 0 ∧ defaultValue (tyX11 j) = .null) := by decide
    rcases hdef j hj with ⟨h1, h2⟩ | ⟨h1, h2⟩
    · rw [if_pos h1, h2]; rfl
    · rw [if_neg h1, h2]; rfl
  have hS1 : va_S (Ab (zG Z)) (zs Z).heap H1 locs := ⟨Nat.le_trans hS.1 (by omega), fun x h1 h2 => (o1 x (Nat.lt_of_lt_of_le h1 hS.1)).trans (hS.2.1 x h1 h2), hS.2.2⟩
  have hv : Value.ref H.size = rf (snG (zG Z)) 0 := by rw [hz]; rfl
  rw [hv]
  refine lv_dup C.x C.b dL_law_11 rfl ?_
  obtain ⟨mi, mini, mcode, hyn, md⟩ := mi_X11
  have hrun := va_runI (As := []) (rest := [rf (snG (zG Z)) 0]) (g := F0 (zm Z) 12 ls (rf (snG (zG Z)) 0 :: [rf (snG (zG Z)) 0])) (below := zb Z) (locs := locs) (H := H1) (meth := zh Z) (e := ze Z) (cells := 197) (slots := 3756) ⟨C.x, C.b, C.ml, C.ow, hts⟩ (c_i_X11 (zl Z) (snG (zG Z)) (by show 0 < 1; decide) 0 _ hA)
    ⟨callB_of 0 hts (GoodIn.one mcode rfl) rfl rfl rfl (hts _ mini) (hts _ km_L_86) md (by rw [hR.1, hR.2]; exact ⟨Nat.le_of_ble_eq_true rfl, Nat.le_of_ble_eq_true rfl⟩), hyn, hts _ mi⟩
    ⟨StA.blind, fun U hU hW => ⟨rfl, by rw [hU]; exact hR1, (C.kk.go hW hS1 hU).sn⟩⟩ rfl rfl (by rw [hL.1]; rfl) rfl (lv_room (Nat.le_of_ble_eq_true rfl)) dL_law_12 ⟨by show 197 + 195 ≤ (zR Z).cells; rw [N.1]; decide, by show 3756 + 3730 ≤ (zR Z).slots; rw [N.2.1]; decide⟩
  intro T hT X
  obtain ⟨v, st₀, t, T', Lx, h0, X', hLx, e2, e3, ⟨⟨hv2, hst⟩, hF⟩, go⟩ := hrun T hT X
  have hv' : v = none := by injection hv2
  subst hv'
  have hrep : Rep (zG Z) (mg2 (I0, I0)) T'.heap := by
    rw [e2]
    refine (rep2 hn).mpr ⟨(rep_n0 rfl).mpr fun k hk => ?_, (rep_n0 rfl).mpr fun k hk => rep_cells hst hc k hk⟩
    have a1 := rep_cells hRA hc k hk
    have a2 := a1.kept (o1 _ (va_at_lt a1))
    refine a2.kept ?_
    rw [← h0]
    refine hF.2 _ (by rw [h0]; exact va_at_lt a2) ?_
    rintro ⟨h3, _⟩
    have h3 : (zG Z).1 + NN ≤ (zG Z).1 + k := h3
    omega
  obtain ⟨hz9, hk9⟩ := hF
  rw [h0] at hz9 hk9
  have hS2 : va_S (Ab (zG Z)) (zs Z).heap T'.heap (locs ++ Lx) := ⟨Nat.le_trans hS1.1 (by rw [e2]; exact hz9), fun q h1 h2 => by rw [e2, hk9 q (Nat.lt_of_lt_of_le h1 hS1.1) (fun h => h2 (Ab_sn h hn))]; exact hS1.2.1 q h1 h2, fun q hq => by
      rcases List.mem_append.mp hq with h | h
      · exact hS1.2.2 q h
      · exact Ab_sn (hLx q h) hn⟩
  have hfin : W (zp Z) (zl Z) (ze Z) (zR Z) (zs Z) (zm Z) (za Z) (zb Z) (zh Z) (zc Z) T'.heap (locs ++ Lx) 392 7486 Z.2.2.2.2 (F0 (zm Z) 15 ls [rf (snG (zG Z)) 0]) := by
    refine lv_astore_n C.x C.b dL_law_15 rfl hL.has (show 2 < 8 by decide) rfl (fun ls' h' => ?_)
    refine W.widen (k := 1000) (n := 30000) (by decide) (by decide) ?_
    exact hK T'.heap (locs ++ Lx) ls' hrep hS2 (hasL.of (v := rf (zG Z) 196) (i := 2) (L := [some (.ref b), some (rf (zG Z) 0), none, none, none, none, none, none]) (Nat.le_of_ble_eq_true rfl) rfl hL.cat h')
  obtain ⟨t2, a1, b1⟩ := hfin T' rfl X'
  exact ⟨t2, go t2 a1, b1⟩
