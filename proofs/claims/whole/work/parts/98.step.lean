/-! every step of the law agrees -/
theorem ks_0 {n j : Nat} {xs : Nat → Int32} {I : Mem} (hn : n ≤ 2048) (h : 4 * j + 4 ≤ n) (hI : Inv I) : OKc (m_L_case0 n xs (nI (4 * j)) I) := by
  have w1 : inb (nI (4 * j) + 1) n = true := by rw [show nI (4 * j) + 1 = nI (4 * j + 1) from nI_add _ 1]; exact inb_n (by omega) (by omega)
  have w2 : inb (nI (4 * j) + 2) n = true := by rw [show nI (4 * j) + 2 = nI (4 * j + 2) from nI_add _ 2]; exact inb_n (by omega) (by omega)
  have w3 : inb (nI (4 * j) + 3) n = true := by rw [show nI (4 * j) + 3 = nI (4 * j + 3) from nI_add _ 3]; exact inb_n (by omega) (by omega)
  simp only [m_L_case0, w1, w2, w3, gd_t]
  obtain ⟨t1, ht1, e1⟩ := letter_n (xs (nI (4 * j) + 1).toNatClampNeg)
  rw [e1]
  exact op_addItem hI t1 ht1 _ _
theorem ks_1 {n j : Nat} {xs : Nat → Int32} {I : Mem} (hn : n ≤ 2048) (h : 4 * j + 4 ≤ n) (hI : Inv I) : OKc (m_L_case1 n xs (nI (4 * j)) I) := by
  have w1 : inb (nI (4 * j) + 1) n = true := by rw [show nI (4 * j) + 1 = nI (4 * j + 1) from nI_add _ 1]; exact inb_n (by omega) (by omega)
  have w2 : inb (nI (4 * j) + 2) n = true := by rw [show nI (4 * j) + 2 = nI (4 * j + 2) from nI_add _ 2]; exact inb_n (by omega) (by omega)
  simp only [m_L_case1, w1, w2, gd_t]
  exact op_openLoop hI _ _
theorem ks_2 {n j : Nat} {xs : Nat → Int32} {I : Mem} (hn : n ≤ 2048) (h : 4 * j + 4 ≤ n) (hI : Inv I) : OKc (m_L_case2 n xs (nI (4 * j)) I) := by
  exact op_closeLoop hI
theorem ks_3 {n j : Nat} {xs : Nat → Int32} {I : Mem} (hn : n ≤ 2048) (h : 4 * j + 4 ≤ n) (hI : Inv I) : OKc (m_L_case3 n xs (nI (4 * j)) I) := by
  exact op_clear hI
theorem ks_4 {n j : Nat} {xs : Nat → Int32} {I : Mem} (hn : n ≤ 2048) (h : 4 * j + 4 ≤ n) (hI : Inv I) : OKc (m_L_case4 n xs (nI (4 * j)) I) := by
  exact op_items hI
theorem ks_5 {n j : Nat} {xs : Nat → Int32} {I : Mem} (hn : n ≤ 2048) (h : 4 * j + 4 ≤ n) (hI : Inv I) : OKc (m_L_case5 n xs (nI (4 * j)) I) := by
  have w1 : inb (nI (4 * j) + 1) n = true := by rw [show nI (4 * j) + 1 = nI (4 * j + 1) from nI_add _ 1]; exact inb_n (by omega) (by omega)
  simp only [m_L_case5, w1, gd_t]
  obtain ⟨t1, ht1, e1⟩ := letter_n (xs (nI (4 * j) + 1).toNatClampNeg)
  rw [e1]
  exact op_feed hI t1 ht1
theorem ks_6 {n j : Nat} {xs : Nat → Int32} {I : Mem} (hn : n ≤ 2048) (h : 4 * j + 4 ≤ n) (hI : Inv I) : OKc (m_L_case6 n xs (nI (4 * j)) I) := by
  exact op_discard hI
theorem ks_7 {n j : Nat} {xs : Nat → Int32} {I : Mem} (hn : n ≤ 2048) (h : 4 * j + 4 ≤ n) (hI : Inv I) : OKc (m_L_case7 n xs (nI (4 * j)) I) := by
  exact op_length hI
theorem ks_8 {n j : Nat} {xs : Nat → Int32} {I : Mem} (hn : n ≤ 2048) (h : 4 * j + 4 ≤ n) (hI : Inv I) : OKc (m_L_case8 n xs (nI (4 * j)) I) := by
  exact op_read hI
theorem ks_9 {n j : Nat} {xs : Nat → Int32} {I : Mem} (hn : n ≤ 2048) (h : 4 * j + 4 ≤ n) (hI : Inv I) : OKc (m_L_case9 n xs (nI (4 * j)) I) := by
  have w1 : inb (nI (4 * j) + 1) n = true := by rw [show nI (4 * j) + 1 = nI (4 * j + 1) from nI_add _ 1]; exact inb_n (by omega) (by omega)
  simp only [m_L_case9, w1, gd_t]
  exact op_faultKind hI _
theorem ks_10 {n j : Nat} {xs : Nat → Int32} {I : Mem} (hn : n ≤ 2048) (h : 4 * j + 4 ≤ n) (hI : Inv I) : OKc (m_L_case10 n xs (nI (4 * j)) I) := by
  have w1 : inb (nI (4 * j) + 1) n = true := by rw [show nI (4 * j) + 1 = nI (4 * j + 1) from nI_add _ 1]; exact inb_n (by omega) (by omega)
  simp only [m_L_case10, w1, gd_t]
  exact op_faultPlace hI _
theorem ks_11 {n j : Nat} {xs : Nat → Int32} {I : Mem} (hn : n ≤ 2048) (h : 4 * j + 4 ≤ n) (hI : Inv I) : OKc (m_L_case11 n xs (nI (4 * j)) I) := by
  exact op_control hI
theorem ks_12 {n j : Nat} {xs : Nat → Int32} {I : Mem} (hn : n ≤ 2048) (h : 4 * j + 4 ≤ n) (hI : Inv I) : OKc (m_L_case12 n xs (nI (4 * j)) I) := by
  exact op_segments hI
theorem ks_13 {n j : Nat} {xs : Nat → Int32} {I : Mem} (hn : n ≤ 2048) (h : 4 * j + 4 ≤ n) (hI : Inv I) : OKc (m_L_case13 n xs (nI (4 * j)) I) := by
  have w1 : inb (nI (4 * j) + 1) n = true := by rw [show nI (4 * j) + 1 = nI (4 * j + 1) from nI_add _ 1]; exact inb_n (by omega) (by omega)
  simp only [m_L_case13, w1, gd_t]
  exact op_tag hI _
theorem ks_14 {n j : Nat} {xs : Nat → Int32} {I : Mem} (hn : n ≤ 2048) (h : 4 * j + 4 ≤ n) (hI : Inv I) : OKc (m_L_case14 n xs (nI (4 * j)) I) := by
  have w1 : inb (nI (4 * j) + 1) n = true := by rw [show nI (4 * j) + 1 = nI (4 * j + 1) from nI_add _ 1]; exact inb_n (by omega) (by omega)
  simp only [m_L_case14, w1, gd_t]
  exact op_elements hI _
theorem ks_15 {n j : Nat} {xs : Nat → Int32} {I : Mem} (hn : n ≤ 2048) (h : 4 * j + 4 ≤ n) (hI : Inv I) : OKc (m_L_case15 n xs (nI (4 * j)) I) := by
  have w1 : inb (nI (4 * j) + 1) n = true := by rw [show nI (4 * j) + 1 = nI (4 * j + 1) from nI_add _ 1]; exact inb_n (by omega) (by omega)
  have w2 : inb (nI (4 * j) + 2) n = true := by rw [show nI (4 * j) + 2 = nI (4 * j + 2) from nI_add _ 2]; exact inb_n (by omega) (by omega)
  simp only [m_L_case15, w1, w2, gd_t]
  exact op_contentLength hI _ _
theorem ks_16 {n j : Nat} {xs : Nat → Int32} {I : Mem} (hn : n ≤ 2048) (h : 4 * j + 4 ≤ n) (hI : Inv I) : OKc (m_L_case16 n xs (nI (4 * j)) I) := by
  have w1 : inb (nI (4 * j) + 1) n = true := by rw [show nI (4 * j) + 1 = nI (4 * j + 1) from nI_add _ 1]; exact inb_n (by omega) (by omega)
  have w2 : inb (nI (4 * j) + 2) n = true := by rw [show nI (4 * j) + 2 = nI (4 * j + 2) from nI_add _ 2]; exact inb_n (by omega) (by omega)
  have w3 : inb (nI (4 * j) + 3) n = true := by rw [show nI (4 * j) + 3 = nI (4 * j + 3) from nI_add _ 3]; exact inb_n (by omega) (by omega)
  simp only [m_L_case16, w1, w2, w3, gd_t]
  exact op_content hI _ _ _
theorem ks_17 {n j : Nat} {xs : Nat → Int32} {I : Mem} (hn : n ≤ 2048) (h : 4 * j + 4 ≤ n) (hI : Inv I) : OKc (m_L_case17 n xs (nI (4 * j)) I) := by
  have w1 : inb (nI (4 * j) + 1) n = true := by rw [show nI (4 * j) + 1 = nI (4 * j + 1) from nI_add _ 1]; exact inb_n (by omega) (by omega)
  simp only [m_L_case17, w1, gd_t]
  exact op_item hI _
theorem ks_18 {n j : Nat} {xs : Nat → Int32} {I : Mem} (hn : n ≤ 2048) (h : 4 * j + 4 ≤ n) (hI : Inv I) : OKc (m_L_case18 n xs (nI (4 * j)) I) := by
  have w1 : inb (nI (4 * j) + 1) n = true := by rw [show nI (4 * j) + 1 = nI (4 * j + 1) from nI_add _ 1]; exact inb_n (by omega) (by omega)
  simp only [m_L_case18, w1, gd_t]
  exact op_pass hI _
theorem ks_19 {n j : Nat} {xs : Nat → Int32} {I : Mem} (hn : n ≤ 2048) (h : 4 * j + 4 ≤ n) (hI : Inv I) : OKc (m_L_case19 n xs (nI (4 * j)) I) := by
  have w1 : inb (nI (4 * j) + 1) n = true := by rw [show nI (4 * j) + 1 = nI (4 * j + 1) from nI_add _ 1]; exact inb_n (by omega) (by omega)
  have w2 : inb (nI (4 * j) + 2) n = true := by rw [show nI (4 * j) + 2 = nI (4 * j + 2) from nI_add _ 2]; exact inb_n (by omega) (by omega)
  simp only [m_L_case19, w1, w2, gd_t]
  obtain ⟨t2, ht2, e2⟩ := letter_n (xs (nI (4 * j) + 2).toNatClampNeg)
  rw [e2]
  exact op_addRule hI _ t2 ht2
theorem ks_20 {n j : Nat} {xs : Nat → Int32} {I : Mem} (hn : n ≤ 2048) (h : 4 * j + 4 ≤ n) (hI : Inv I) : OKc (m_L_case20 n xs (nI (4 * j)) I) := by
  have w1 : inb (nI (4 * j) + 1) n = true := by rw [show nI (4 * j) + 1 = nI (4 * j + 1) from nI_add _ 1]; exact inb_n (by omega) (by omega)
  have w2 : inb (nI (4 * j) + 2) n = true := by rw [show nI (4 * j) + 2 = nI (4 * j + 2) from nI_add _ 2]; exact inb_n (by omega) (by omega)
  simp only [m_L_case20, w1, w2, gd_t]
  exact op_addField hI _ _
theorem ks_21 {n j : Nat} {xs : Nat → Int32} {I : Mem} (hn : n ≤ 2048) (h : 4 * j + 4 ≤ n) (hI : Inv I) : OKc (m_L_case21 n xs (nI (4 * j)) I) := by
  have w1 : inb (nI (4 * j) + 1) n = true := by rw [show nI (4 * j) + 1 = nI (4 * j + 1) from nI_add _ 1]; exact inb_n (by omega) (by omega)
  have w2 : inb (nI (4 * j) + 2) n = true := by rw [show nI (4 * j) + 2 = nI (4 * j + 2) from nI_add _ 2]; exact inb_n (by omega) (by omega)
  have w3 : inb (nI (4 * j) + 3) n = true := by rw [show nI (4 * j) + 3 = nI (4 * j + 3) from nI_add _ 3]; exact inb_n (by omega) (by omega)
  simp only [m_L_case21, w1, w2, w3, gd_t]
  obtain ⟨t3, ht3, e3⟩ := letter_n (xs (nI (4 * j) + 3).toNatClampNeg)
  rw [e3]
  exact op_setCondition hI _ _ t3 ht3
theorem ks_22 {n j : Nat} {xs : Nat → Int32} {I : Mem} (hn : n ≤ 2048) (h : 4 * j + 4 ≤ n) (hI : Inv I) : OKc (m_L_case22 n xs (nI (4 * j)) I) := by
  exact op_write hI
theorem ks_23 {n j : Nat} {xs : Nat → Int32} {I : Mem} (hn : n ≤ 2048) (h : 4 * j + 4 ≤ n) (hI : Inv I) : OKc (m_L_case23 n xs (nI (4 * j)) I) := by
  exact op_written hI
theorem ks_24 {n j : Nat} {xs : Nat → Int32} {I : Mem} (hn : n ≤ 2048) (h : 4 * j + 4 ≤ n) (hI : Inv I) : OKc (m_L_case24 n xs (nI (4 * j)) I) := by
  have w1 : inb (nI (4 * j) + 1) n = true := by rw [show nI (4 * j) + 1 = nI (4 * j + 1) from nI_add _ 1]; exact inb_n (by omega) (by omega)
  simp only [m_L_case24, w1, gd_t]
  exact op_letter hI _
theorem ks_25 {n j : Nat} {xs : Nat → Int32} {I : Mem} (hn : n ≤ 2048) (h : 4 * j + 4 ≤ n) (hI : Inv I) : OKc (m_L_case25 n xs (nI (4 * j)) I) := by
  exact op_feedWritten hI
theorem steps_ok {n : Nat} {xs : Nat → Int32} (hn : n ≤ 2048) : StepsOK n xs (fun _ I => Inv I) := by
  intro j I h hI
  have w0 : inb (nI (4 * j)) n = true := inb_n (by omega) (by omega)
  show OKc (m_L_step n xs (nI (4 * j)) I)
  unfold m_L_step
  rw [w0, gd_t]
  generalize xs (nI (4 * j)).toNatClampNeg &&& 31 = v
  by_cases h0 : v = 0
  · rw [if_pos h0]
    exact ks_0 hn h hI
  rw [if_neg h0]
  by_cases h1 : v = 1
  · rw [if_pos h1]
    exact ks_1 hn h hI
  rw [if_neg h1]
  by_cases h2 : v = 2
  · rw [if_pos h2]
    exact ks_2 hn h hI
  rw [if_neg h2]
  by_cases h3 : v = 3
  · rw [if_pos h3]
    exact ks_3 hn h hI
  rw [if_neg h3]
  by_cases h4 : v = 4
  · rw [if_pos h4]
    exact ks_4 hn h hI
  rw [if_neg h4]
  by_cases h5 : v = 5
  · rw [if_pos h5]
    exact ks_5 hn h hI
  rw [if_neg h5]
  by_cases h6 : v = 6
  · rw [if_pos h6]
    exact ks_6 hn h hI
  rw [if_neg h6]
  by_cases h7 : v = 7
  · rw [if_pos h7]
    exact ks_7 hn h hI
  rw [if_neg h7]
  by_cases h8 : v = 8
  · rw [if_pos h8]
    exact ks_8 hn h hI
  rw [if_neg h8]
  by_cases h9 : v = 9
  · rw [if_pos h9]
    exact ks_9 hn h hI
  rw [if_neg h9]
  by_cases h10 : v = 10
  · rw [if_pos h10]
    exact ks_10 hn h hI
  rw [if_neg h10]
  by_cases h11 : v = 11
  · rw [if_pos h11]
    exact ks_11 hn h hI
  rw [if_neg h11]
  by_cases h12 : v = 12
  · rw [if_pos h12]
    exact ks_12 hn h hI
  rw [if_neg h12]
  by_cases h13 : v = 13
  · rw [if_pos h13]
    exact ks_13 hn h hI
  rw [if_neg h13]
  by_cases h14 : v = 14
  · rw [if_pos h14]
    exact ks_14 hn h hI
  rw [if_neg h14]
  by_cases h15 : v = 15
  · rw [if_pos h15]
    exact ks_15 hn h hI
  rw [if_neg h15]
  by_cases h16 : v = 16
  · rw [if_pos h16]
    exact ks_16 hn h hI
  rw [if_neg h16]
  by_cases h17 : v = 17
  · rw [if_pos h17]
    exact ks_17 hn h hI
  rw [if_neg h17]
  by_cases h18 : v = 18
  · rw [if_pos h18]
    exact ks_18 hn h hI
  rw [if_neg h18]
  by_cases h19 : v = 19
  · rw [if_pos h19]
    exact ks_19 hn h hI
  rw [if_neg h19]
  by_cases h20 : v = 20
  · rw [if_pos h20]
    exact ks_20 hn h hI
  rw [if_neg h20]
  by_cases h21 : v = 21
  · rw [if_pos h21]
    exact ks_21 hn h hI
  rw [if_neg h21]
  by_cases h22 : v = 22
  · rw [if_pos h22]
    exact ks_22 hn h hI
  rw [if_neg h22]
  by_cases h23 : v = 23
  · rw [if_pos h23]
    exact ks_23 hn h hI
  rw [if_neg h23]
  by_cases h24 : v = 24
  · rw [if_pos h24]
    exact ks_24 hn h hI
  rw [if_neg h24]
  by_cases h25 : v = 25
  · rw [if_pos h25]
    exact ks_25 hn h hI
  rw [if_neg h25]
  exact ⟨I, rfl, hI⟩
