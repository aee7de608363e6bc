theorem arrV_ext {c : ClassId} {n : Nat} {f g : Nat → Value} (h : ∀ i, i < n → f i = g i) : arrV c n f = arrV c n g := by
  unfold arrV
  congr 2
  funext j
  exact h j.val j.isLt
theorem I0_arr {k : Nat} (h : (lay k).1 ≠ 0) : I0 k = fun _ => 0 := by
  funext j
  unfold I0
  rw [if_neg (fun q => h (by rw [q.1])), if_neg (fun q => h (by rw [q]; decide))]
theorem at_of {G : Gx} {k : Nat} {a : AC} {H : Heap} (hc : chk k a = true) (h : va_at (Dg G) vwCl (G.1 + k, cellA G a) H) : va_at (Dg G) vwCl (G.1 + k, cellR G (I0 k) k) H := by
  have hI := @I0_arr k
  unfold chk at hc
  unfold cellR
  obtain ⟨t2, c2, fs⟩ := a
  rcases hl : lay k with ⟨t, n, z⟩
  rw [hl] at hc hI
  match t, t2, hc, hI, h with
  | 0, 0, hc, hI, h =>
    obtain ⟨h1, h2⟩ := Bool.and_eq_true_iff.mp hc
    have h1 := of_decide_eq_true h1
    subst h1
    have e : (List.range (nf n)).map (fun j => fvA G n j (fs.getD j 0)) = (List.range (nf n)).map (fV G (I0 k) n k) := by
      refine List.map_congr_left fun j hj => ?_
      have hj2 := List.all_eq_true.mp h2 j hj
      generalize hf : fk n j = x at hj2
      match x, hj2 with
      | 0, hj2 =>
        have := of_decide_eq_true hj2
        simp only [fvA, fV, hf, if_pos, this]
      | 1, hj2 =>
        have := of_decide_eq_true hj2
        simp only [fvA, fV, hf, this]
        rfl
      | x + 2, hj2 =>
        have := of_decide_eq_true hj2
        simp only [fvA, fV, hf, this]
        rfl
    show va_at _ _ (_, .inr (n, _)) _
    rw [← e]
    exact h
  | 1, 1, hc, hI, h =>
    have h1 := of_decide_eq_true hc
    subst h1
    simp only
    rw [hI (by simp)]
    exact h
  | 2, 2, hc, hI, h =>
    have h1 := of_decide_eq_true hc
    subst h1
    simp only
    rw [hI (by simp)]
    exact h
  | 3, 3, hc, hI, h =>
    have h1 := of_decide_eq_true hc
    subst h1
    simp only
    rw [hI (by simp)]
    exact h
  | 4, 4, hc, hI, h =>
    have h1 := of_decide_eq_true hc
    subst h1
    simp only
    rw [hI (by simp)]
    exact h
  | t + 5, t2 + 5, hc, hI, h =>
    obtain ⟨h1, h2⟩ := Bool.and_eq_true_iff.mp hc
    have h1 := of_decide_eq_true h1
    obtain ⟨rfl, rfl⟩ := h1
    show H[G.1 + k]? = some (vp_cell _ _)
    have h : H[G.1 + k]? = some (vp_cell _ (n, .inr (.inr (.inr (.inr (fun i => qA G (fs.getD i 0))))))) := h
    rw [h, vp_cell_q, vp_cell_q]
    congr 1
    refine arrV_ext fun i hi => ?_
    have hj2 := of_decide_eq_true (List.all_eq_true.mp h2 i (List.mem_range.mpr hi))
    rw [hj2]
    simp [qA]
theorem rep_of {G : Gx} {A : AH} {H : Heap} (h : RepA G A H) (hc : chkA A = true) : Rep G I0 H := by
  obtain ⟨h1, h2⟩ := Bool.and_eq_true_iff.mp hc
  have h1 := of_decide_eq_true h1
  intro k q hq
  have lk := (List.getElem?_eq_some_iff.mp hq).1
  simp only [wd, List.length_map, List.length_range] at lk
  rw [wd_get lk] at hq
  cases hq
  exact at_of (List.all_eq_true.mp h2 k (List.mem_range.mpr lk)) (h.2 k _ (wdA_get (by rw [h1]; exact lk)))
