/-! the law's loop, given that the steps agree -/
def LA (G : Gx) (b : Nat) (i : Int32) : List (Option Value) := [some (.ref b), some (rf G 0), some (rf G 196), some (rf G 230), some (.int i), none, none]
def StepsOK (n : Nat) (xs : Nat → Int32) (P : Nat → Mem → Prop) : Prop := ∀ (j : Nat) (I : Mem), 4 * j + 4 ≤ n → P j I → ∃ I', m_L_step n xs (nI (4 * j)) I = some (.inl I') ∧ P (j + 1) I'
theorem lim_lt {n j : Nat} (hn : n ≤ 2048) (h : n < 4 * j + 4) (hj : 4 * j ≤ n) : Int32.ofNat n - 4 < nI (4 * j) := by
  rw [Int32.lt_iff_toInt_lt]
  show (nI n - nI 4).toInt < _
  rw [pk_sub_toInt (by omega) (by omega), nI_toInt (by omega)]
  omega
theorem lim_nlt {n j : Nat} (hn : n ≤ 2048) (h : 4 * j + 4 ≤ n) : ¬ Int32.ofNat n - 4 < nI (4 * j) := by
  rw [Int32.lt_iff_toInt_lt]
  show ¬ (nI n - nI 4).toInt < _
  rw [pk_sub_toInt (by omega) (by omega), nI_toInt (by omega)]
  omega
set_option maxRecDepth 100000 in
theorem law_loop {Z : Zx} {b n : Nat} {xs : Nat → Int32} (hn : n ≤ 2048) (C0 : Cx Z code 7 RL) (hR : RM Z 13 472) (hst : (zl Z).stackTraces = false) (hNC : NCs (zs Z)) (X : LX Z b n xs) (hcells : (zR Z).cells = 601024) (hslots : (zR Z).slots = 7293034) {P : Nat → Mem → Prop} (hP : StepsOK n xs P)
    (hEnd : ∀ (c k : Nat) (I : Mem) (L : List (Option Value)), c ≤ 601024 → k ≤ 7293034 → WM (Zb Z c k) I 1417 L []) :
    ∀ (r j : Nat) (I : Mem), 4 * (j + r) ≤ n → n < 4 * (j + r) + 4 → P j I → WM (Zb Z (1000 + 4 * j) (30000 + 24 * j)) I 23 (LA (zG Z) b (nI (4 * j))) [] := by
  intro r
  induction r with
  | zero =>
    intro j I h1 h2 _
    have C : Cx (Zb Z (1000 + 4 * j) (30000 + 24 * j)) code 7 RL := C0.bump (by rw [hcells]; omega) (by rw [hslots]; omega)
    have X' : LX (Zb Z (1000 + 4 * j) (30000 + 24 * j)) b n xs := X
    have hwf : WF (Zb Z (1000 + 4 * j) (30000 + 24 * j)) (fun _ : Unit => True) (if Int32.ofNat n - 4 < nI (4 * j) then some () else some ()) I 23 (LA (zG Z) b (nI (4 * j))) [] := by
      refine w_iload (v := nI (4 * j)) C dL_law_23 rfl (q := 25) rfl ?_
      refine w_aloadB (b := b) C dL_law_25 rfl (q := 26) rfl ?_
      refine w_slen C X' dL_law_26 (q := 27) rfl ?_
      refine w_iconst (v := 4) C dL_law_27 (by decide) (q := 28) rfl ?_
      refine w_isub C dL_law_28 (q := 29) rfl ?_
      refine w_icmp_gt (tgt := 1417) (q := 32) C dL_law_29 (by decide) rfl (fun _ => ?_) (fun hc => absurd (lim_lt hn (by omega) (by omega)) hc)
      exact w_jmp (fun _ => hEnd _ _ I _ (by omega) (by omega))
    exact hwf () (by split <;> rfl) trivial
  | succ r ih =>
    intro j I h1 h2 hPj
    have C : Cx (Zb Z (1000 + 4 * j) (30000 + 24 * j)) code 7 RL := C0.bump (by rw [hcells]; omega) (by rw [hslots]; omega)
    have X' : LX (Zb Z (1000 + 4 * j) (30000 + 24 * j)) b n xs := X
    obtain ⟨I', hstep, hP'⟩ := hP j I (by omega) hPj
    have hnext := ih (j + 1) I' (by omega) (by omega) hP'
    have hwf : WF (Zb Z (1000 + 4 * j) (30000 + 24 * j)) (fun x => x = .inl I') (if Int32.ofNat n - 4 < nI (4 * j) then some (.inl I') else m_L_step n xs (nI (4 * j)) I) I 23 (LA (zG Z) b (nI (4 * j))) [] := by
      refine w_iload (v := nI (4 * j)) C dL_law_23 rfl (q := 25) rfl ?_
      refine w_aloadB (b := b) C dL_law_25 rfl (q := 26) rfl ?_
      refine w_slen C X' dL_law_26 (q := 27) rfl ?_
      refine w_iconst (v := 4) C dL_law_27 (by decide) (q := 28) rfl ?_
      refine w_isub C dL_law_28 (q := 29) rfl ?_
      refine w_icmp_gt (tgt := 1417) (q := 32) C dL_law_29 (by decide) rfl (fun hc => absurd hc (lim_nlt hn (by omega))) (fun _ => ?_)
      refine m_L_step_ok C hR hst hNC X' (nI (4 * j)) I (by rw [hcells]; show 1000 + 4 * j + 4 ≤ _; omega) (by rw [hslots]; show 30000 + 24 * j + 24 ≤ _; omega) (fun I2 h2 => ?_) (fun h => nomatch h)
      have e2 : I2 = I' := by injection h2
      subst e2
      have C2 := C.bump (c := 1000 + 4 * j + 4) (n := 30000 + 24 * j + 24) (by rw [hcells]; omega) (by rw [hslots]; omega)
      have hw2 : WF (Zb (Zb Z (1000 + 4 * j) (30000 + 24 * j)) (1000 + 4 * j + 4) (30000 + 24 * j + 24)) (fun _ : Unit => True) (some ()) I2 1411 (LA (zG Z) b (nI (4 * j))) [] := by
        refine w_iinc (v := nI (4 * (j + 1))) C2 dL_law_1411 rfl ?_ (L' := LA (zG Z) b (nI (4 * (j + 1)))) rfl (q := 1414) rfl ?_
        · show nI (4 * j) + nI 4 = _
          rw [nI_add]
          rfl
        · refine w_goto (tgt := 23) C2 dL_law_1414 (by decide) ?_
          exact w_jmp (fun _ => hnext)
      exact hw2 () rfl trivial
    exact hwf (.inl I') (by rw [if_neg (lim_nlt hn (by omega))]; exact hstep) rfl
