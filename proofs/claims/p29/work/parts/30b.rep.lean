theorem arrV_ext {c : ClassId} {n : Nat} {f g : Nat → Value} (h : ∀ i, i < n → f i = g i) : arrV c n f = arrV c n g := by
  unfold arrV
  congr 2
  funext j
  exact h j.val j.isLt
theorem I0_arr {k : Nat} (h : (lay k).1 ≠ 0) : I0 k = fun _ => 0 := by
  funext j
  unfold I0
  rw [if_neg (fun q => h (by rw [q.1])), if_neg (fun q => h (by rw [q]; decide))]
def ofG (o : Nat) (G : Gx) : Gx := (G.1 + o, G.2.1, G.2.2.1, G.2.2.2.1, 0, G.2.2.2.2.2)
theorem at_of {G : Gx} {o k : Nat} {a : AC} {H : Heap} (hc : chk o k a = true) (h : va_at (Dg G) vwCl (G.1 + (o + k), cellA G a) H) : va_at (Dg G) vwCl (G.1 + o + k, cellR (ofG o G) (I0 k) k) H := by
  have hI := @I0_arr k
  rw [← Nat.add_assoc] at h
  unfold chk at hc
  unfold cellR
  obtain ⟨t2, c2, fs⟩ := a
  rcases hl : lay k with ⟨t, n, z⟩
  rw [hl] at hc hI
  match t, t2, hc, hI, h with
  | 0, 0, hc, hI, h =>
    obtain ⟨h1, h2⟩ := Bool.and_eq_true_iff.mp hc
    have h1 := of_decide_eq_true h1
    subst h1
    have e : (List.range (nf n)).map (fun j => fvA G n j (fs.getD j 0)) = (List.range (nf n)).map (fV (ofG o G) (I0 k) n k) := by
      refine List.map_congr_left fun j hj => ?_
      have hj2 := List.all_eq_true.mp h2 j hj
      generalize hf : fk n j = x at hj2
      match x, hj2 with
      | 0, hj2 =>
        have := of_decide_eq_true hj2
        simp only [fvA, fV, hf, if_pos, this]
      | 1, hj2 =>
        have := of_decide_eq_true hj2
        simp only [fvA, fV, hf, this]
        show Value.ref (G.1 + (tgt k j + o)) = Value.ref (G.1 + o + tgt k j)
        congr 1
        omega
      | x + 2, hj2 =>
        have := of_decide_eq_true hj2
        simp only [fvA, fV, hf, this]
        show Value.ref (G.1 + ((I0 k j).toNatClampNeg + o)) = Value.ref (G.1 + o + (I0 k j).toNatClampNeg)
        congr 1
        omega
    show va_at _ _ (_, .inr (n, _)) _
    rw [← e]
    exact h
  | 1, 1, hc, hI, h =>
    have h1 := of_decide_eq_true hc
    subst h1
    simp only
    rw [hI (by simp)]
    exact h
  | 2, 2, hc, hI, h =>
    have h1 := of_decide_eq_true hc
    subst h1
    simp only
    rw [hI (by simp)]
    exact h
  | 3, 3, hc, hI, h =>
    have h1 := of_decide_eq_true hc
    subst h1
    simp only
    rw [hI (by simp)]
    exact h
  | 4, 4, hc, hI, h =>
    have h1 := of_decide_eq_true hc
    subst h1
    simp only
    rw [hI (by simp)]
    exact h
  | t + 5, t2 + 5, hc, hI, h =>
    obtain ⟨h1, h2⟩ := Bool.and_eq_true_iff.mp hc
    have h1 := of_decide_eq_true h1
    obtain ⟨rfl, rfl⟩ := h1
    show H[G.1 + o + k]? = some (vp_cell _ _)
    have h : H[G.1 + o + k]? = some (vp_cell _ (n, .inr (.inr (.inr (.inr (fun i => qA G (fs.getD i 0))))))) := h
    rw [h, vp_cell_q, vp_cell_q]
    congr 1
    refine arrV_ext fun i hi => ?_
    have hj2 := of_decide_eq_true (List.all_eq_true.mp h2 i (List.mem_range.mpr hi))
    rw [hj2]
    show va_rf (some (G.1 + (tgt k i + o))) = va_rf (some (G.1 + o + tgt k i))
    congr 2
    omega
theorem rep_of {G : Gx} {A : AH} {H : Heap} (hn : Gn G = 1) (h : RepA G A H) (hc : chkA A = true) : Rep G (mg2 (I0, I0)) H := by
  obtain ⟨h1, h2⟩ := Bool.and_eq_true_iff.mp hc
  have h1 := of_decide_eq_true h1
  obtain ⟨h2, h3⟩ := Bool.and_eq_true_iff.mp h2
  refine (rep2 hn).mpr ⟨(rep_n0 rfl).mpr fun k hk => ?_, (rep_n0 rfl).mpr fun k hk => ?_⟩
  · have h4 := h.2 k _ (wdA_get (by omega))
    exact at_of (o := 0) (List.all_eq_true.mp h2 k (List.mem_range.mpr hk)) (by rw [Nat.zero_add]; exact h4)
  · exact at_of (o := NN) (List.all_eq_true.mp h3 k (List.mem_range.mpr hk)) (h.2 (NN + k) _ (wdA_get (by omega)))
