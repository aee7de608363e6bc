theorem ho_0 : isO 0 11 := ⟨by decide, by decide +kernel⟩
theorem kk_L_7 : Cond.constant RL 7 (40093) ∈ LT := LT.mem (List.mem_of_getElem? (i := 729) (by decide +kernel)) (by decide +kernel)
theorem kk_L_8 : Cond.constant RL 8 (2147483647) ∈ LT := LT.mem (List.mem_of_getElem? (i := 730) (by decide +kernel)) (by decide +kernel)
def m_L_part (Xs : Nat × (Nat → Int32)) (p2 : Int32) (I : Mem) : Option (Int32) :=
  if Int32.ofNat Xs.1 ≤ p2 then (some (((((40093 : Int32)) * (p2 + 3)) * (p2 + 10)) &&& 2147483647)) else (gd (inb p2 Xs.1) (some ((Xs.2 p2.toNatClampNeg) &&& 2147483647)))
set_option maxRecDepth 100000 in
set_option maxHeartbeats 4000000 in
theorem m_L_part_ok {Z : Zx} {K : Int32 → Prop} (C : Cx Z cL_part 2 RL) (hR : RM Z 0 0) (Xs : Nat × (Nat → Int32)) (p2 : Int32) (hXs : Xs = sG (zG Z)) (I : Mem) (hK : ∀ y, K (y) → RetI Z cL_part .int y I) : WF Z K (m_L_part Xs p2 I) I 0 [some (.ref (Gb (zG Z))), some (.int p2)] [] := by
  unfold m_L_part
  refine w_iload_n (v := p2) C dL_part_0 rfl (q := 1) rfl ?_
  refine w_aloadB (b := Gb (zG Z)) C dL_part_1 rfl (q := 2) rfl ?_
  refine w_slenX C hXs dL_part_2 (q := 3) rfl ?_
  refine w_icmp_ge (tgt := 12) (q := 6) C dL_part_3 (by decide) rfl (fun _ => ?_) (fun _ => ?_)
  · refine w_ldc (v := 40093) C kk_L_7 dL_part_12 (q := 14) rfl ?_
    refine w_iload_n (v := p2) C dL_part_14 rfl (q := 15) rfl ?_
    refine w_iconst (v := (3)) C dL_part_15 (by decide) (q := 16) rfl ?_
    refine w_iadd C dL_part_16 (q := 17) rfl ?_
    refine w_imul C dL_part_17 (q := 18) rfl ?_
    refine w_iload_n (v := p2) C dL_part_18 rfl (q := 19) rfl ?_
    refine w_bipush (v := (10)) C dL_part_19 (by decide) (q := 21) rfl ?_
    refine w_iadd C dL_part_21 (q := 22) rfl ?_
    refine w_imul C dL_part_22 (q := 23) rfl ?_
    refine w_ldc (v := 2147483647) C kk_L_8 dL_part_23 (q := 25) rfl ?_
    refine w_iand C dL_part_25 (q := 26) rfl ?_
    exact w_iret C (hK _) rfl dL_part_26
  · refine w_aloadB (b := Gb (zG Z)) C dL_part_6 rfl (q := 7) rfl ?_
    refine w_iload_n (v := p2) C dL_part_7 rfl (q := 8) rfl ?_
    refine w_sldX C hXs dL_part_8 (q := 9) rfl (fun _ => ?_)
    refine w_goto (tgt := 23) C dL_part_9 (by decide) ?_
    refine w_ldc (v := 2147483647) C kk_L_8 dL_part_23 (q := 25) rfl ?_
    refine w_iand C dL_part_25 (q := 26) rfl ?_
    exact w_iret C (hK _) rfl dL_part_26
theorem c_L_part (l : Launch) (G : Gx) {Xs : Nat × (Nat → Int32)} (p2 : Int32) (hXs : Xs = sG G) (I : Mem) {x : Int32} (h : m_L_part Xs p2 I = some x) : Ct l G yL_part cL_part 2 (some (.int)) 0 0 [.ref (Gb G), .int p2] I (some (.int x)) I := Ct.of (by decide +kernel) rfl (Nat.le_of_ble_eq_true rfl) ret_i (fun Z hG hl C hR hret => by
  subst hG
  exact m_L_part_ok (K := fun y => y = x) C hR Xs p2 hXs I (fun y hy => by subst hy; exact hret) x h rfl)
def m_L_isLaid_j122 (p1 : Nat) (p2 : Int32) (x3 : Int32) (x4 : Int32) (y0 : Int32) (I : Mem) : Option ((Int32 × Int32 × Mem) ⊕ ((Int32 × Mem))) :=
  some (.inl (y0, x4 + 1, I))
set_option maxRecDepth 100000 in
set_option maxHeartbeats 4000000 in
theorem m_L_isLaid_j122_ok {Z : Zx} {K : ((Int32 × Int32 × Mem) ⊕ ((Int32 × Mem))) → Prop} (C : Cx Z cL_isLaid 5 RL) (hR : RM Z 4 93) (p1 : Nat) (p2 : Int32) (x3 : Int32) (x4 : Int32) (y0 : Int32) (hp1 : isO p1 11) (I : Mem) (hB : ∀ a, K (.inl a) → WM Z a.2.2 93 [some (rf (zG Z) p1), some (.int p2), some (.int a.1), some (.int x3), some (.int a.2.1)] []) (hX0 : ∀ b, K (.inr (b)) → WM Z b.2 129 [some (rf (zG Z) p1), some (.int p2), some (.int b.1), some (.int x3), none] []) : WF Z K (m_L_isLaid_j122 p1 p2 x3 x4 y0 I) I 122 [some (rf (zG Z) p1), some (.int p2), none, some (.int x3), some (.int x4)] [.int y0] := by
  unfold m_L_isLaid_j122
  refine w_istore_n C dL_isLaid_122 (Nat.le_of_ble_eq_true rfl) (L' := [some (rf (zG Z) p1), some (.int p2), some (.int y0), some (.int x3), some (.int x4)]) rfl (q := 123) rfl ?_
  refine w_iinc (v := x4 + 1) C dL_isLaid_123 rfl rfl (L' := [some (rf (zG Z) p1), some (.int p2), some (.int y0), some (.int x3), some (.int (x4 + 1))]) rfl (q := 126) rfl ?_
  refine w_goto (tgt := 93) C dL_isLaid_126 (by decide) ?_
  exact w_jmp (fun h => WM.less (L' := [some (rf (zG Z) p1), some (.int p2), some (.int y0), some (.int x3), some (.int (x4 + 1))]) (hB _ h) ⟨rfl, rfl, rfl, rfl, rfl, trivial⟩)
def m_L_isLaid_j121 (p1 : Nat) (p2 : Int32) (x3 : Int32) (x4 : Int32) (I : Mem) : Option ((Int32 × Int32 × Mem) ⊕ ((Int32 × Mem))) :=
  m_L_isLaid_j122 p1 p2 x3 x4 ((0 : Int32)) I
set_option maxRecDepth 100000 in
set_option maxHeartbeats 4000000 in
theorem m_L_isLaid_j121_ok {Z : Zx} {K : ((Int32 × Int32 × Mem) ⊕ ((Int32 × Mem))) → Prop} (C : Cx Z cL_isLaid 5 RL) (hR : RM Z 4 93) (p1 : Nat) (p2 : Int32) (x3 : Int32) (x4 : Int32) (hp1 : isO p1 11) (I : Mem) (hB : ∀ a, K (.inl a) → WM Z a.2.2 93 [some (rf (zG Z) p1), some (.int p2), some (.int a.1), some (.int x3), some (.int a.2.1)] []) (hX0 : ∀ b, K (.inr (b)) → WM Z b.2 129 [some (rf (zG Z) p1), some (.int p2), some (.int b.1), some (.int x3), none] []) : WF Z K (m_L_isLaid_j121 p1 p2 x3 x4 I) I 121 [some (rf (zG Z) p1), some (.int p2), none, some (.int x3), some (.int x4)] [] := by
  unfold m_L_isLaid_j121
  refine w_iconst (v := (0)) C dL_isLaid_121 (by decide) (q := 122) rfl ?_
  exact WF.less (L' := [some (rf (zG Z) p1), some (.int p2), none, some (.int x3), some (.int x4)]) (m_L_isLaid_j122_ok C hR p1 p2 x3 x4 ((0 : Int32)) hp1 I hB hX0) ⟨rfl, rfl, rfl, rfl, trivial⟩
def m_L_isLaid_b93 (p1 : Nat) (p2 : Int32) (x3 : Int32) (x2 : Int32) (x4 : Int32) (I : Mem) : Option ((Int32 × Int32 × Mem) ⊕ ((Int32 × Mem))) :=
  if p2 ≤ x4 then (some (.inr ((x2, I)))) else (if x2 = 0 then (m_L_isLaid_j121 p1 p2 x3 x4 I) else (Option.bind (m_X11_addField p1 x3 x4 I) fun r3 => if r3.1 = x4 + 1 then (m_L_isLaid_j122 p1 p2 x3 x4 ((1 : Int32)) r3.2) else (m_L_isLaid_j121 p1 p2 x3 x4 r3.2)))
set_option maxRecDepth 100000 in
set_option maxHeartbeats 4000000 in
theorem m_L_isLaid_b93_ok {Z : Zx} {K : ((Int32 × Int32 × Mem) ⊕ ((Int32 × Mem))) → Prop} (C : Cx Z cL_isLaid 5 RL) (hR : RM Z 4 93) (p1 : Nat) (p2 : Int32) (x3 : Int32) (x2 : Int32) (x4 : Int32) (hp1 : isO p1 11) (I : Mem) (hB : ∀ a, K (.inl a) → WM Z a.2.2 93 [some (rf (zG Z) p1), some (.int p2), some (.int a.1), some (.int x3), some (.int a.2.1)] []) (hX0 : ∀ b, K (.inr (b)) → WM Z b.2 129 [some (rf (zG Z) p1), some (.int p2), some (.int b.1), some (.int x3), none] []) : WF Z K (m_L_isLaid_b93 p1 p2 x3 x2 x4 I) I 93 [some (rf (zG Z) p1), some (.int p2), some (.int x2), some (.int x3), some (.int x4)] [] := by
  unfold m_L_isLaid_b93
  refine w_iload (v := x4) C dL_isLaid_93 rfl (q := 95) rfl ?_
  refine w_iload_n (v := p2) C dL_isLaid_95 rfl (q := 96) rfl ?_
  refine w_icmp_ge (tgt := 129) (q := 99) C dL_isLaid_96 (by decide) rfl (fun _ => ?_) (fun _ => ?_)
  · exact w_jmp (fun h => WM.less (L' := [some (rf (zG Z) p1), some (.int p2), some (.int x2), some (.int x3), none]) (hX0 _ h) ⟨rfl, rfl, rfl, rfl, trivial⟩)
  · refine w_iload_n (v := x2) C dL_isLaid_99 rfl (q := 100) rfl ?_
    refine w_if_eq (tgt := 121) (q := 103) C dL_isLaid_100 (by decide) rfl (fun _ => ?_) (fun _ => ?_)
    · exact WF.less (L' := [some (rf (zG Z) p1), some (.int p2), none, some (.int x3), some (.int x4)]) (m_L_isLaid_j121_ok C hR p1 p2 x3 x4 hp1 I hB hX0) ⟨rfl, rfl, rfl, rfl, trivial⟩
    · refine w_aload_n (v := p1) C dL_isLaid_103 rfl (q := 104) rfl ?_
      refine w_iload_n (v := x3) C dL_isLaid_104 rfl (q := 105) rfl ?_
      refine w_iload (v := x4) C dL_isLaid_105 rfl (q := 107) rfl ?_
      refine w_callV (val := fun r3 => some (.int r3.1)) (mem := fun r3 => r3.2) (st1 := fun r3 => [.int r3.1]) (As := [.int x3, .int x4]) (st := []) (q := 110) C hR (fun x h => c_X11_addField (zl Z) (zG Z) x3 x4 hp1 I h) hp1 mv_X11_addField lk_L_27 rfl (by decide) (fun _ => rfl) (Nat.le_of_ble_eq_true rfl) rfl rfl dL_isLaid_107 rfl (fun r3 => ?_)
      refine w_iload (v := x4) C dL_isLaid_110 rfl (q := 112) rfl ?_
      refine w_iconst (v := (1)) C dL_isLaid_112 (by decide) (q := 113) rfl ?_
      refine w_iadd C dL_isLaid_113 (q := 114) rfl ?_
      refine w_icmp_ne (tgt := 121) (q := 117) C dL_isLaid_114 (by decide) rfl (fun _ => ?_) (fun _ => ?_)
      · refine w_iconst (v := (1)) C dL_isLaid_117 (by decide) (q := 118) rfl ?_
        refine w_goto (tgt := 122) C dL_isLaid_118 (by decide) ?_
        exact WF.less (L' := [some (rf (zG Z) p1), some (.int p2), none, some (.int x3), some (.int x4)]) (m_L_isLaid_j122_ok C hR p1 p2 x3 x4 ((1 : Int32)) hp1 r3.2 hB hX0) ⟨rfl, rfl, rfl, rfl, trivial⟩
      · exact WF.less (L' := [some (rf (zG Z) p1), some (.int p2), none, some (.int x3), some (.int x4)]) (m_L_isLaid_j121_ok C hR p1 p2 x3 x4 hp1 r3.2 hB hX0) ⟨rfl, rfl, rfl, rfl, trivial⟩
def m_L_isLaid_j89 (p1 : Nat) (p2 : Int32) (x3 : Int32) (y0 : Int32) (I : Mem) : Option ((Int32 × Int32 × Mem) ⊕ ((Int32 × Mem))) :=
  Option.bind (loopF (fun a => m_L_isLaid_b93 p1 p2 x3 a.1 a.2.1 a.2.2) FU (y0, (0 : Int32), I)) (fun b4 => some (.inl (b4.1, x3 + 1, b4.2)))
set_option maxRecDepth 100000 in
set_option maxHeartbeats 4000000 in
theorem m_L_isLaid_j89_ok {Z : Zx} {K : ((Int32 × Int32 × Mem) ⊕ ((Int32 × Mem))) → Prop} (C : Cx Z cL_isLaid 5 RL) (hR : RM Z 4 93) (p1 : Nat) (p2 : Int32) (x3 : Int32) (y0 : Int32) (hp1 : isO p1 11) (I : Mem) (hB : ∀ a, K (.inl a) → WM Z a.2.2 61 [some (rf (zG Z) p1), some (.int p2), some (.int a.1), some (.int a.2.1), none] []) (hX0 : ∀ b, K (.inr (b)) → WM Z b.2 135 [none, none, some (.int b.1), none, none] []) : WF Z K (m_L_isLaid_j89 p1 p2 x3 y0 I) I 89 [some (rf (zG Z) p1), some (.int p2), none, some (.int x3), none] [.int y0] := by
  unfold m_L_isLaid_j89
  refine w_istore_n C dL_isLaid_89 (Nat.le_of_ble_eq_true rfl) (L' := [some (rf (zG Z) p1), some (.int p2), some (.int y0), some (.int x3), none]) rfl (q := 90) rfl ?_
  refine w_iconst (v := (0)) C dL_isLaid_90 (by decide) (q := 91) rfl ?_
  refine w_istore C dL_isLaid_91 (Nat.le_of_ble_eq_true rfl) (L' := [some (rf (zG Z) p1), some (.int p2), some (.int y0), some (.int x3), some (.int 0)]) rfl (q := 93) rfl ?_
  refine WF.less (L' := [some (rf (zG Z) p1), some (.int p2), some (.int y0), some (.int x3), some (.int 0)]) (w_loopF (pc := 93) (a := (y0, (0 : Int32), I)) (mem := fun a => a.2.2) (lo := fun a => [some (rf (zG Z) p1), some (.int p2), some (.int a.1), some (.int x3), some (.int a.2.1)]) (E := fun b4 => WM Z b4.2 129 [some (rf (zG Z) p1), some (.int p2), some (.int b4.1), some (.int x3), none] []) (fun a => m_L_isLaid_b93_ok C hR p1 p2 x3 a.1 a.2.1 hp1 a.2.2 (fun _ h => h) (fun _ h => h)) ?_) ⟨rfl, rfl, rfl, rfl, rfl, trivial⟩
  intro b4
  refine w_hx ?_
  refine w_iinc (v := x3 + 1) C dL_isLaid_129 rfl rfl (L' := [some (rf (zG Z) p1), some (.int p2), some (.int b4.1), some (.int (x3 + 1)), none]) rfl (q := 132) rfl ?_
  refine w_goto (tgt := 61) C dL_isLaid_132 (by decide) ?_
  exact w_jmp (fun h => WM.less (L' := [some (rf (zG Z) p1), some (.int p2), some (.int b4.1), some (.int (x3 + 1)), none]) (hB _ h) ⟨rfl, rfl, rfl, rfl, trivial⟩)
def m_L_isLaid_j88 (p1 : Nat) (p2 : Int32) (x3 : Int32) (I : Mem) : Option ((Int32 × Int32 × Mem) ⊕ ((Int32 × Mem))) :=
  m_L_isLaid_j89 p1 p2 x3 ((0 : Int32)) I
set_option maxRecDepth 100000 in
set_option maxHeartbeats 4000000 in
theorem m_L_isLaid_j88_ok {Z : Zx} {K : ((Int32 × Int32 × Mem) ⊕ ((Int32 × Mem))) → Prop} (C : Cx Z cL_isLaid 5 RL) (hR : RM Z 4 93) (p1 : Nat) (p2 : Int32) (x3 : Int32) (hp1 : isO p1 11) (I : Mem) (hB : ∀ a, K (.inl a) → WM Z a.2.2 61 [some (rf (zG Z) p1), some (.int p2), some (.int a.1), some (.int a.2.1), none] []) (hX0 : ∀ b, K (.inr (b)) → WM Z b.2 135 [none, none, some (.int b.1), none, none] []) : WF Z K (m_L_isLaid_j88 p1 p2 x3 I) I 88 [some (rf (zG Z) p1), some (.int p2), none, some (.int x3), none] [] := by
  unfold m_L_isLaid_j88
  refine w_iconst (v := (0)) C dL_isLaid_88 (by decide) (q := 89) rfl ?_
  exact WF.less (L' := [some (rf (zG Z) p1), some (.int p2), none, some (.int x3), none]) (m_L_isLaid_j89_ok C hR p1 p2 x3 ((0 : Int32)) hp1 I hB hX0) ⟨rfl, rfl, rfl, trivial⟩
def m_L_isLaid_b61 (p1 : Nat) (p2 : Int32) (x2 : Int32) (x3 : Int32) (I : Mem) : Option ((Int32 × Int32 × Mem) ⊕ ((Int32 × Mem))) :=
  if 3 ≤ x3 then (some (.inr ((x2, I)))) else (if x2 = 0 then (m_L_isLaid_j88 p1 p2 x3 I) else (Option.bind (m_X11_addRule p1 x3 (((((65 : Int32)) + x3).toUInt32 % 65536).toInt32) I) fun r5 => if r5.1 = x3 then (m_L_isLaid_j89 p1 p2 x3 ((1 : Int32)) r5.2) else (m_L_isLaid_j88 p1 p2 x3 r5.2)))
set_option maxRecDepth 100000 in
set_option maxHeartbeats 4000000 in
theorem m_L_isLaid_b61_ok {Z : Zx} {K : ((Int32 × Int32 × Mem) ⊕ ((Int32 × Mem))) → Prop} (C : Cx Z cL_isLaid 5 RL) (hR : RM Z 4 93) (p1 : Nat) (p2 : Int32) (x2 : Int32) (x3 : Int32) (hp1 : isO p1 11) (I : Mem) (hB : ∀ a, K (.inl a) → WM Z a.2.2 61 [some (rf (zG Z) p1), some (.int p2), some (.int a.1), some (.int a.2.1), none] []) (hX0 : ∀ b, K (.inr (b)) → WM Z b.2 135 [none, none, some (.int b.1), none, none] []) : WF Z K (m_L_isLaid_b61 p1 p2 x2 x3 I) I 61 [some (rf (zG Z) p1), some (.int p2), some (.int x2), some (.int x3), none] [] := by
  unfold m_L_isLaid_b61
  refine w_iload_n (v := x3) C dL_isLaid_61 rfl (q := 62) rfl ?_
  refine w_iconst (v := (3)) C dL_isLaid_62 (by decide) (q := 63) rfl ?_
  refine w_icmp_ge (tgt := 135) (q := 66) C dL_isLaid_63 (by decide) rfl (fun _ => ?_) (fun _ => ?_)
  · exact w_jmp (fun h => WM.less (L' := [none, none, some (.int x2), none, none]) (hX0 _ h) ⟨rfl, trivial⟩)
  · refine w_iload_n (v := x2) C dL_isLaid_66 rfl (q := 67) rfl ?_
    refine w_if_eq (tgt := 88) (q := 70) C dL_isLaid_67 (by decide) rfl (fun _ => ?_) (fun _ => ?_)
    · exact WF.less (L' := [some (rf (zG Z) p1), some (.int p2), none, some (.int x3), none]) (m_L_isLaid_j88_ok C hR p1 p2 x3 hp1 I hB hX0) ⟨rfl, rfl, rfl, trivial⟩
    · refine w_aload_n (v := p1) C dL_isLaid_70 rfl (q := 71) rfl ?_
      refine w_iload_n (v := x3) C dL_isLaid_71 rfl (q := 72) rfl ?_
      refine w_bipush (v := (65)) C dL_isLaid_72 (by decide) (q := 74) rfl ?_
      refine w_iload_n (v := x3) C dL_isLaid_74 rfl (q := 75) rfl ?_
      refine w_iadd C dL_isLaid_75 (q := 76) rfl ?_
      refine w_i2c C dL_isLaid_76 (q := 77) rfl ?_
      refine w_callV (val := fun r5 => some (.int r5.1)) (mem := fun r5 => r5.2) (st1 := fun r5 => [.int r5.1]) (As := [.int x3, .int (((((65 : Int32)) + x3).toUInt32 % 65536).toInt32)]) (st := []) (q := 80) C hR (fun x h => c_X11_addRule (zl Z) (zG Z) x3 (((((65 : Int32)) + x3).toUInt32 % 65536).toInt32) hp1 I h) hp1 mv_X11_addRule lk_L_23 rfl (by decide) (fun _ => rfl) (Nat.le_of_ble_eq_true rfl) rfl rfl dL_isLaid_77 rfl (fun r5 => ?_)
      refine w_iload_n (v := x3) C dL_isLaid_80 rfl (q := 81) rfl ?_
      refine w_icmp_ne (tgt := 88) (q := 84) C dL_isLaid_81 (by decide) rfl (fun _ => ?_) (fun _ => ?_)
      · refine w_iconst (v := (1)) C dL_isLaid_84 (by decide) (q := 85) rfl ?_
        refine w_goto (tgt := 89) C dL_isLaid_85 (by decide) ?_
        exact WF.less (L' := [some (rf (zG Z) p1), some (.int p2), none, some (.int x3), none]) (m_L_isLaid_j89_ok C hR p1 p2 x3 ((1 : Int32)) hp1 r5.2 hB hX0) ⟨rfl, rfl, rfl, trivial⟩
      · exact WF.less (L' := [some (rf (zG Z) p1), some (.int p2), none, some (.int x3), none]) (m_L_isLaid_j88_ok C hR p1 p2 x3 hp1 r5.2 hB hX0) ⟨rfl, rfl, rfl, trivial⟩
def m_L_isLaid_j58 (p1 : Nat) (p2 : Int32) (y0 : Int32) (I : Mem) : Option (Int32 × Mem) :=
  Option.bind (loopF (fun a => m_L_isLaid_b61 p1 p2 a.1 a.2.1 a.2.2) FU (y0, (0 : Int32), I)) (fun b6 => gd (okz b6.1) (some ((b6.1, b6.2))))
set_option maxRecDepth 100000 in
set_option maxHeartbeats 4000000 in
theorem m_L_isLaid_j58_ok {Z : Zx} {K : (Int32 × Mem) → Prop} (C : Cx Z cL_isLaid 5 RL) (hR : RM Z 4 93) (p1 : Nat) (p2 : Int32) (y0 : Int32) (hp1 : isO p1 11) (I : Mem) (hK : ∀ y, K (y) → RetI Z cL_isLaid .boolean y.1 y.2) : WF Z K (m_L_isLaid_j58 p1 p2 y0 I) I 58 [some (rf (zG Z) p1), some (.int p2), none, none, none] [.int y0] := by
  unfold m_L_isLaid_j58
  refine w_istore_n C dL_isLaid_58 (Nat.le_of_ble_eq_true rfl) (L' := [some (rf (zG Z) p1), some (.int p2), some (.int y0), none, none]) rfl (q := 59) rfl ?_
  refine w_iconst (v := (0)) C dL_isLaid_59 (by decide) (q := 60) rfl ?_
  refine w_istore_n C dL_isLaid_60 (Nat.le_of_ble_eq_true rfl) (L' := [some (rf (zG Z) p1), some (.int p2), some (.int y0), some (.int 0), none]) rfl (q := 61) rfl ?_
  refine WF.less (L' := [some (rf (zG Z) p1), some (.int p2), some (.int y0), some (.int 0), none]) (w_loopF (pc := 61) (a := (y0, (0 : Int32), I)) (mem := fun a => a.2.2) (lo := fun a => [some (rf (zG Z) p1), some (.int p2), some (.int a.1), some (.int a.2.1), none]) (E := fun b6 => WM Z b6.2 135 [none, none, some (.int b6.1), none, none] []) (fun a => m_L_isLaid_b61_ok C hR p1 p2 a.1 a.2.1 hp1 a.2.2 (fun _ h => h) (fun _ h => h)) ?_) ⟨rfl, rfl, rfl, rfl, trivial⟩
  intro b6
  refine w_hx ?_
  refine w_iload_n (v := b6.1) C dL_isLaid_135 rfl (q := 136) rfl ?_
  refine w_gd (fun h7 => ?_)
  exact w_iret C (hK _) (okz_n h7).1 dL_isLaid_136
def m_L_isLaid_j57 (p1 : Nat) (p2 : Int32) (I : Mem) : Option (Int32 × Mem) :=
  m_L_isLaid_j58 p1 p2 ((0 : Int32)) I
set_option maxRecDepth 100000 in
set_option maxHeartbeats 4000000 in
theorem m_L_isLaid_j57_ok {Z : Zx} {K : (Int32 × Mem) → Prop} (C : Cx Z cL_isLaid 5 RL) (hR : RM Z 4 93) (p1 : Nat) (p2 : Int32) (hp1 : isO p1 11) (I : Mem) (hK : ∀ y, K (y) → RetI Z cL_isLaid .boolean y.1 y.2) : WF Z K (m_L_isLaid_j57 p1 p2 I) I 57 [some (rf (zG Z) p1), some (.int p2), none, none, none] [] := by
  unfold m_L_isLaid_j57
  refine w_iconst (v := (0)) C dL_isLaid_57 (by decide) (q := 58) rfl ?_
  exact WF.less (L' := [some (rf (zG Z) p1), some (.int p2), none, none, none]) (m_L_isLaid_j58_ok C hR p1 p2 ((0 : Int32)) hp1 I hK) ⟨rfl, rfl, trivial⟩
def m_L_isLaid (p1 : Nat) (p2 : Int32) (I : Mem) : Option (Int32 × Mem) :=
  Option.bind (m_X11_openLoop p1 ((0 : Int32)) ((9 : Int32)) I) fun I1 => Option.bind (m_X11_addItem p1 ((65 : Int32)) ((0 : Int32)) ((9 : Int32)) I1) fun r2 => if r2.1 = 0 then (Option.bind (m_X11_addItem p1 ((66 : Int32)) ((0 : Int32)) ((9 : Int32)) r2.2) fun r8 => if r8.1 = 1 then (Option.bind (m_X11_addItem p1 ((67 : Int32)) ((0 : Int32)) ((9 : Int32)) r8.2) fun r9 => if r9.1 = 2 then (Option.bind (m_X11_closeLoop p1 r9.2) fun r10 => if r10.1 = 3 then (m_L_isLaid_j58 p1 p2 ((1 : Int32)) r10.2) else (m_L_isLaid_j57 p1 p2 r10.2)) else (m_L_isLaid_j57 p1 p2 r9.2)) else (m_L_isLaid_j57 p1 p2 r8.2)) else (m_L_isLaid_j57 p1 p2 r2.2)
set_option maxRecDepth 100000 in
set_option maxHeartbeats 4000000 in
theorem m_L_isLaid_ok {Z : Zx} {K : (Int32 × Mem) → Prop} (C : Cx Z cL_isLaid 5 RL) (hR : RM Z 4 93) (p1 : Nat) (p2 : Int32) (hp1 : isO p1 11) (I : Mem) (hK : ∀ y, K (y) → RetI Z cL_isLaid .boolean y.1 y.2) : WF Z K (m_L_isLaid p1 p2 I) I 0 [some (rf (zG Z) p1), some (.int p2), none, none, none] [] := by
  unfold m_L_isLaid
  refine w_aload_n (v := p1) C dL_isLaid_0 rfl (q := 1) rfl ?_
  refine w_iconst (v := (0)) C dL_isLaid_1 (by decide) (q := 2) rfl ?_
  refine w_bipush (v := (9)) C dL_isLaid_2 (by decide) (q := 4) rfl ?_
  refine w_callV (val := fun I1 => none) (mem := fun I1 => I1) (st1 := fun I1 => []) (As := [.int 0, .int 9]) (st := []) (q := 7) C hR (fun x h => c_X11_openLoop (zl Z) (zG Z) ((0 : Int32)) ((9 : Int32)) hp1 I h) hp1 mv_X11_openLoop lk_L_9 rfl (by decide) (fun _ => rfl) (Nat.le_of_ble_eq_true rfl) rfl rfl dL_isLaid_4 rfl (fun I1 => ?_)
  refine w_aload_n (v := p1) C dL_isLaid_7 rfl (q := 8) rfl ?_
  refine w_bipush (v := (65)) C dL_isLaid_8 (by decide) (q := 10) rfl ?_
  refine w_iconst (v := (0)) C dL_isLaid_10 (by decide) (q := 11) rfl ?_
  refine w_bipush (v := (9)) C dL_isLaid_11 (by decide) (q := 13) rfl ?_
  refine w_callV (val := fun r2 => some (.int r2.1)) (mem := fun r2 => r2.2) (st1 := fun r2 => [.int r2.1]) (As := [.int 65, .int 0, .int 9]) (st := []) (q := 16) C hR (fun x h => c_X11_addItem (zl Z) (zG Z) ((65 : Int32)) ((0 : Int32)) ((9 : Int32)) hp1 I1 h) hp1 mv_X11_addItem lk_L_15 rfl (by decide) (fun _ => rfl) (Nat.le_of_ble_eq_true rfl) rfl rfl dL_isLaid_13 rfl (fun r2 => ?_)
  refine w_if_ne (tgt := 57) (q := 19) C dL_isLaid_16 (by decide) rfl (fun _ => ?_) (fun _ => ?_)
  · refine w_aload_n (v := p1) C dL_isLaid_19 rfl (q := 20) rfl ?_
    refine w_bipush (v := (66)) C dL_isLaid_20 (by decide) (q := 22) rfl ?_
    refine w_iconst (v := (0)) C dL_isLaid_22 (by decide) (q := 23) rfl ?_
    refine w_bipush (v := (9)) C dL_isLaid_23 (by decide) (q := 25) rfl ?_
    refine w_callV (val := fun r8 => some (.int r8.1)) (mem := fun r8 => r8.2) (st1 := fun r8 => [.int r8.1]) (As := [.int 66, .int 0, .int 9]) (st := []) (q := 28) C hR (fun x h => c_X11_addItem (zl Z) (zG Z) ((66 : Int32)) ((0 : Int32)) ((9 : Int32)) hp1 r2.2 h) hp1 mv_X11_addItem lk_L_15 rfl (by decide) (fun _ => rfl) (Nat.le_of_ble_eq_true rfl) rfl rfl dL_isLaid_25 rfl (fun r8 => ?_)
    refine w_iconst (v := (1)) C dL_isLaid_28 (by decide) (q := 29) rfl ?_
    refine w_icmp_ne (tgt := 57) (q := 32) C dL_isLaid_29 (by decide) rfl (fun _ => ?_) (fun _ => ?_)
    · refine w_aload_n (v := p1) C dL_isLaid_32 rfl (q := 33) rfl ?_
      refine w_bipush (v := (67)) C dL_isLaid_33 (by decide) (q := 35) rfl ?_
      refine w_iconst (v := (0)) C dL_isLaid_35 (by decide) (q := 36) rfl ?_
      refine w_bipush (v := (9)) C dL_isLaid_36 (by decide) (q := 38) rfl ?_
      refine w_callV (val := fun r9 => some (.int r9.1)) (mem := fun r9 => r9.2) (st1 := fun r9 => [.int r9.1]) (As := [.int 67, .int 0, .int 9]) (st := []) (q := 41) C hR (fun x h => c_X11_addItem (zl Z) (zG Z) ((67 : Int32)) ((0 : Int32)) ((9 : Int32)) hp1 r8.2 h) hp1 mv_X11_addItem lk_L_15 rfl (by decide) (fun _ => rfl) (Nat.le_of_ble_eq_true rfl) rfl rfl dL_isLaid_38 rfl (fun r9 => ?_)
      refine w_iconst (v := (2)) C dL_isLaid_41 (by decide) (q := 42) rfl ?_
      refine w_icmp_ne (tgt := 57) (q := 45) C dL_isLaid_42 (by decide) rfl (fun _ => ?_) (fun _ => ?_)
      · refine w_aload_n (v := p1) C dL_isLaid_45 rfl (q := 46) rfl ?_
        refine w_callV (val := fun r10 => some (.int r10.1)) (mem := fun r10 => r10.2) (st1 := fun r10 => [.int r10.1]) (As := []) (st := []) (q := 49) C hR (fun x h => c_X11_closeLoop (zl Z) (zG Z)  hp1 r9.2 h) hp1 mv_X11_closeLoop lk_L_19 rfl (by decide) (fun _ => rfl) (Nat.le_of_ble_eq_true rfl) rfl rfl dL_isLaid_46 rfl (fun r10 => ?_)
        refine w_iconst (v := (3)) C dL_isLaid_49 (by decide) (q := 50) rfl ?_
        refine w_icmp_ne (tgt := 57) (q := 53) C dL_isLaid_50 (by decide) rfl (fun _ => ?_) (fun _ => ?_)
        · refine w_iconst (v := (1)) C dL_isLaid_53 (by decide) (q := 54) rfl ?_
          refine w_goto (tgt := 58) C dL_isLaid_54 (by decide) ?_
          exact WF.less (L' := [some (rf (zG Z) p1), some (.int p2), none, none, none]) (m_L_isLaid_j58_ok C hR p1 p2 ((1 : Int32)) hp1 r10.2 hK) ⟨rfl, rfl, trivial⟩
        · exact WF.less (L' := [some (rf (zG Z) p1), some (.int p2), none, none, none]) (m_L_isLaid_j57_ok C hR p1 p2 hp1 r10.2 hK) ⟨rfl, rfl, trivial⟩
      · exact WF.less (L' := [some (rf (zG Z) p1), some (.int p2), none, none, none]) (m_L_isLaid_j57_ok C hR p1 p2 hp1 r9.2 hK) ⟨rfl, rfl, trivial⟩
    · exact WF.less (L' := [some (rf (zG Z) p1), some (.int p2), none, none, none]) (m_L_isLaid_j57_ok C hR p1 p2 hp1 r8.2 hK) ⟨rfl, rfl, trivial⟩
  · exact WF.less (L' := [some (rf (zG Z) p1), some (.int p2), none, none, none]) (m_L_isLaid_j57_ok C hR p1 p2 hp1 r2.2 hK) ⟨rfl, rfl, trivial⟩
theorem c_L_isLaid (l : Launch) (G : Gx) {p1 : Nat} (p2 : Int32) (hp1 : isO p1 11) (I : Mem) {x : Int32 × Mem} (h : m_L_isLaid p1 p2 I = some x) : Ct l G yL_isLaid cL_isLaid 5 (some (.boolean)) 4 93 [rf G p1, .int p2] I (some (.int x.1)) x.2 := Ct.of (by decide +kernel) rfl (Nat.le_of_ble_eq_true rfl) ret_i (fun Z hG hl C hR hret => by
  subst hG
  exact m_L_isLaid_ok (K := fun y => y = x) C hR p1 p2 hp1 I (fun y hy => by subst hy; exact hret) x h rfl)
def m_L_feedNumber_j19 (p1 : Nat) (p2 : Int32) (I : Mem) : Option (Mem) :=
  Option.bind (m_X11_feed p1 (((((48 : Int32)) + (p2 - p2 / 10 * 10)).toUInt32 % 65536).toInt32) I) fun r1 => some r1.2
set_option maxRecDepth 100000 in
set_option maxHeartbeats 4000000 in
theorem m_L_feedNumber_j19_ok {Z : Zx} {K : Mem → Prop} (C : Cx Z cL_feedNumber 2 RL) (hR : RM Z 2 42) (p1 : Nat) (p2 : Int32) (hp1 : isO p1 11) (I : Mem) (hK : ∀ y, K (y) → RetV Z cL_feedNumber y) : WF Z K (m_L_feedNumber_j19 p1 p2 I) I 19 [some (rf (zG Z) p1), some (.int p2)] [] := by
  unfold m_L_feedNumber_j19
  refine w_aload_n (v := p1) C dL_feedNumber_19 rfl (q := 20) rfl ?_
  refine w_bipush (v := (48)) C dL_feedNumber_20 (by decide) (q := 22) rfl ?_
  refine w_iload_n (v := p2) C dL_feedNumber_22 rfl (q := 23) rfl ?_
  refine w_bipush (v := (10)) C dL_feedNumber_23 (by decide) (q := 25) rfl ?_
  refine w_iremL C (by decide) dL_feedNumber_25 (q := 26) rfl ?_
  refine w_iadd C dL_feedNumber_26 (q := 27) rfl ?_
  refine w_i2c C dL_feedNumber_27 (q := 28) rfl ?_
  refine w_callV (val := fun r1 => some (.int r1.1)) (mem := fun r1 => r1.2) (st1 := fun r1 => [.int r1.1]) (As := [.int (((((48 : Int32)) + (p2 - p2 / 10 * 10)).toUInt32 % 65536).toInt32)]) (st := []) (q := 31) C hR (fun x h => c_X11_feed (zl Z) (zG Z) (((((48 : Int32)) + (p2 - p2 / 10 * 10)).toUInt32 % 65536).toInt32) hp1 I h) hp1 mv_X11_feed lk_L_31 rfl (by decide) (fun _ => rfl) (Nat.le_of_ble_eq_true rfl) rfl rfl dL_feedNumber_28 rfl (fun r1 => ?_)
  refine w_pop C dL_feedNumber_31 rfl (q := 32) rfl ?_
  exact w_vret C (hK _) dL_feedNumber_32
def m_L_feedNumber (p1 : Nat) (p2 : Int32) (I : Mem) : Option (Mem) :=
  if p2 ≤ 9 then (m_L_feedNumber_j19 p1 p2 I) else (Option.bind (m_X11_feed p1 (((((48 : Int32)) + (p2 / 10)).toUInt32 % 65536).toInt32) I) fun r2 => m_L_feedNumber_j19 p1 p2 r2.2)
set_option maxRecDepth 100000 in
set_option maxHeartbeats 4000000 in
theorem m_L_feedNumber_ok {Z : Zx} {K : Mem → Prop} (C : Cx Z cL_feedNumber 2 RL) (hR : RM Z 2 42) (p1 : Nat) (p2 : Int32) (hp1 : isO p1 11) (I : Mem) (hK : ∀ y, K (y) → RetV Z cL_feedNumber y) : WF Z K (m_L_feedNumber p1 p2 I) I 0 [some (rf (zG Z) p1), some (.int p2)] [] := by
  unfold m_L_feedNumber
  refine w_iload_n (v := p2) C dL_feedNumber_0 rfl (q := 1) rfl ?_
  refine w_bipush (v := (9)) C dL_feedNumber_1 (by decide) (q := 3) rfl ?_
  refine w_icmp_le (tgt := 19) (q := 6) C dL_feedNumber_3 (by decide) rfl (fun _ => ?_) (fun _ => ?_)
  · exact WF.less (L' := [some (rf (zG Z) p1), some (.int p2)]) (m_L_feedNumber_j19_ok C hR p1 p2 hp1 I hK) ⟨rfl, rfl, trivial⟩
  · refine w_aload_n (v := p1) C dL_feedNumber_6 rfl (q := 7) rfl ?_
    refine w_bipush (v := (48)) C dL_feedNumber_7 (by decide) (q := 9) rfl ?_
    refine w_iload_n (v := p2) C dL_feedNumber_9 rfl (q := 10) rfl ?_
    refine w_bipush (v := (10)) C dL_feedNumber_10 (by decide) (q := 12) rfl ?_
    refine w_idivL C (by decide) dL_feedNumber_12 (q := 13) rfl ?_
    refine w_iadd C dL_feedNumber_13 (q := 14) rfl ?_
    refine w_i2c C dL_feedNumber_14 (q := 15) rfl ?_
    refine w_callV (val := fun r2 => some (.int r2.1)) (mem := fun r2 => r2.2) (st1 := fun r2 => [.int r2.1]) (As := [.int (((((48 : Int32)) + (p2 / 10)).toUInt32 % 65536).toInt32)]) (st := []) (q := 18) C hR (fun x h => c_X11_feed (zl Z) (zG Z) (((((48 : Int32)) + (p2 / 10)).toUInt32 % 65536).toInt32) hp1 I h) hp1 mv_X11_feed lk_L_31 rfl (by decide) (fun _ => rfl) (Nat.le_of_ble_eq_true rfl) rfl rfl dL_feedNumber_15 rfl (fun r2 => ?_)
    refine w_pop C dL_feedNumber_18 rfl (q := 19) rfl ?_
    exact WF.less (L' := [some (rf (zG Z) p1), some (.int p2)]) (m_L_feedNumber_j19_ok C hR p1 p2 hp1 r2.2 hK) ⟨rfl, rfl, trivial⟩
theorem c_L_feedNumber (l : Launch) (G : Gx) {p1 : Nat} (p2 : Int32) (hp1 : isO p1 11) (I : Mem) {x : Mem} (h : m_L_feedNumber p1 p2 I = some x) : Ct l G yL_feedNumber cL_feedNumber 2 none 2 42 [rf G p1, .int p2] I (none) x := Ct.of (by decide +kernel) rfl (Nat.le_of_ble_eq_true rfl) ret_v (fun Z hG hl C hR hret => by
  subst hG
  exact m_L_feedNumber_ok (K := fun y => y = x) C hR p1 p2 hp1 I (fun y hy => by subst hy; exact hret) x h rfl)
def m_L_letter (p1 : Int32) (I : Mem) : Option (Int32) :=
  if p1 - p1 / 5 * 5 = 0 then (some 43) else (if p1 - p1 / 5 * 5 = 1 then (some 39) else (if p1 - p1 / 5 * 5 = 2 then (some 63) else (if p1 - p1 / 5 * 5 = 3 then (gd (okc (((((97 : Int32)) + ((p1 / 5) - (p1 / 5) / 26 * 26)).toUInt32 % 65536).toInt32)) (some (((((97 : Int32)) + ((p1 / 5) - (p1 / 5) / 26 * 26)).toUInt32 % 65536).toInt32))) else (gd (okc (((((32 : Int32)) + ((p1 / 5) - (p1 / 5) / 95 * 95)).toUInt32 % 65536).toInt32)) (some (((((32 : Int32)) + ((p1 / 5) - (p1 / 5) / 95 * 95)).toUInt32 % 65536).toInt32))))))
set_option maxRecDepth 100000 in
set_option maxHeartbeats 4000000 in
theorem m_L_letter_ok {Z : Zx} {K : Int32 → Prop} (C : Cx Z cL_letter 1 RL) (hR : RM Z 0 0) (p1 : Int32) (I : Mem) (hK : ∀ y, K (y) → RetI Z cL_letter .char y I) : WF Z K (m_L_letter p1 I) I 0 [some (.int p1)] [] := by
  unfold m_L_letter
  refine w_iload_n (v := p1) C dL_letter_0 rfl (q := 1) rfl ?_
  refine w_iconst (v := (5)) C dL_letter_1 (by decide) (q := 2) rfl ?_
  refine w_iremL C (by decide) dL_letter_2 (q := 3) rfl ?_
  refine w_if_ne (tgt := 11) (q := 6) C dL_letter_3 (by decide) rfl (fun _ => ?_) (fun _ => ?_)
  · refine w_bipush (v := (43)) C dL_letter_6 (by decide) (q := 8) rfl ?_
    refine w_goto (tgt := 65) C dL_letter_8 (by decide) ?_
    exact w_iret C (hK _) (by decide) dL_letter_65
  · refine w_iload_n (v := p1) C dL_letter_11 rfl (q := 12) rfl ?_
    refine w_iconst (v := (5)) C dL_letter_12 (by decide) (q := 13) rfl ?_
    refine w_iremL C (by decide) dL_letter_13 (q := 14) rfl ?_
    refine w_iconst (v := (1)) C dL_letter_14 (by decide) (q := 15) rfl ?_
    refine w_icmp_ne (tgt := 23) (q := 18) C dL_letter_15 (by decide) rfl (fun _ => ?_) (fun _ => ?_)
    · refine w_bipush (v := (39)) C dL_letter_18 (by decide) (q := 20) rfl ?_
      refine w_goto (tgt := 65) C dL_letter_20 (by decide) ?_
      exact w_iret C (hK _) (by decide) dL_letter_65
    · refine w_iload_n (v := p1) C dL_letter_23 rfl (q := 24) rfl ?_
      refine w_iconst (v := (5)) C dL_letter_24 (by decide) (q := 25) rfl ?_
      refine w_iremL C (by decide) dL_letter_25 (q := 26) rfl ?_
      refine w_iconst (v := (2)) C dL_letter_26 (by decide) (q := 27) rfl ?_
      refine w_icmp_ne (tgt := 35) (q := 30) C dL_letter_27 (by decide) rfl (fun _ => ?_) (fun _ => ?_)
      · refine w_bipush (v := (63)) C dL_letter_30 (by decide) (q := 32) rfl ?_
        refine w_goto (tgt := 65) C dL_letter_32 (by decide) ?_
        exact w_iret C (hK _) (by decide) dL_letter_65
      · refine w_iload_n (v := p1) C dL_letter_35 rfl (q := 36) rfl ?_
        refine w_iconst (v := (5)) C dL_letter_36 (by decide) (q := 37) rfl ?_
        refine w_iremL C (by decide) dL_letter_37 (q := 38) rfl ?_
        refine w_iconst (v := (3)) C dL_letter_38 (by decide) (q := 39) rfl ?_
        refine w_icmp_ne (tgt := 55) (q := 42) C dL_letter_39 (by decide) rfl (fun _ => ?_) (fun _ => ?_)
        · refine w_bipush (v := (97)) C dL_letter_42 (by decide) (q := 44) rfl ?_
          refine w_iload_n (v := p1) C dL_letter_44 rfl (q := 45) rfl ?_
          refine w_iconst (v := (5)) C dL_letter_45 (by decide) (q := 46) rfl ?_
          refine w_idivL C (by decide) dL_letter_46 (q := 47) rfl ?_
          refine w_bipush (v := (26)) C dL_letter_47 (by decide) (q := 49) rfl ?_
          refine w_iremL C (by decide) dL_letter_49 (q := 50) rfl ?_
          refine w_iadd C dL_letter_50 (q := 51) rfl ?_
          refine w_i2c C dL_letter_51 (q := 52) rfl ?_
          refine w_goto (tgt := 65) C dL_letter_52 (by decide) ?_
          refine w_gd (fun h2 => ?_)
          exact w_iret C (hK _) (okc_n h2).1 dL_letter_65
        · refine w_bipush (v := (32)) C dL_letter_55 (by decide) (q := 57) rfl ?_
          refine w_iload_n (v := p1) C dL_letter_57 rfl (q := 58) rfl ?_
          refine w_iconst (v := (5)) C dL_letter_58 (by decide) (q := 59) rfl ?_
          refine w_idivL C (by decide) dL_letter_59 (q := 60) rfl ?_
          refine w_bipush (v := (95)) C dL_letter_60 (by decide) (q := 62) rfl ?_
          refine w_iremL C (by decide) dL_letter_62 (q := 63) rfl ?_
          refine w_iadd C dL_letter_63 (q := 64) rfl ?_
          refine w_i2c C dL_letter_64 (q := 65) rfl ?_
          refine w_gd (fun h1 => ?_)
          exact w_iret C (hK _) (okc_n h1).1 dL_letter_65
theorem c_L_letter (l : Launch) (G : Gx) (p1 : Int32)  (I : Mem) {x : Int32} (h : m_L_letter p1 I = some x) : Ct l G yL_letter cL_letter 1 (some (.char)) 0 0 [.int p1] I (some (.int x)) I := Ct.of (by decide +kernel) rfl (Nat.le_of_ble_eq_true rfl) ret_i (fun Z hG hl C hR hret => by
  subst hG
  exact m_L_letter_ok (K := fun y => y = x) C hR p1  I (fun y hy => by subst hy; exact hret) x h rfl)
def m_L_lengthOf (p1 : Int32) (p2 : Int32) (p3 : Int32) (I : Mem) : Option (Int32) :=
  some (((((p1.toUInt32 >>> ((((3 : Int32)) * p3).toUInt32 &&& Int32.toUInt32 31)).toInt32) &&& 7) - (((p1.toUInt32 >>> ((((3 : Int32)) * p3).toUInt32 &&& Int32.toUInt32 31)).toInt32) &&& 7) / 4 * 4) + ((p2 + p3) - (p2 + p3) / 2 * 2))
set_option maxRecDepth 100000 in
set_option maxHeartbeats 4000000 in
theorem m_L_lengthOf_ok {Z : Zx} {K : Int32 → Prop} (C : Cx Z cL_lengthOf 3 RL) (hR : RM Z 0 0) (p1 : Int32) (p2 : Int32) (p3 : Int32) (I : Mem) (hK : ∀ y, K (y) → RetI Z cL_lengthOf .int y I) : WF Z K (m_L_lengthOf p1 p2 p3 I) I 0 [some (.int p1), some (.int p2), some (.int p3)] [] := by
  unfold m_L_lengthOf
  refine w_iload_n (v := p1) C dL_lengthOf_0 rfl (q := 1) rfl ?_
  refine w_iconst (v := (3)) C dL_lengthOf_1 (by decide) (q := 2) rfl ?_
  refine w_iload_n (v := p3) C dL_lengthOf_2 rfl (q := 3) rfl ?_
  refine w_imul C dL_lengthOf_3 (q := 4) rfl ?_
  refine w_iushr C dL_lengthOf_4 (q := 5) rfl ?_
  refine w_bipush (v := (7)) C dL_lengthOf_5 (by decide) (q := 7) rfl ?_
  refine w_iand C dL_lengthOf_7 (q := 8) rfl ?_
  refine w_iconst (v := (4)) C dL_lengthOf_8 (by decide) (q := 9) rfl ?_
  refine w_iremL C (by decide) dL_lengthOf_9 (q := 10) rfl ?_
  refine w_iload_n (v := p2) C dL_lengthOf_10 rfl (q := 11) rfl ?_
  refine w_iload_n (v := p3) C dL_lengthOf_11 rfl (q := 12) rfl ?_
  refine w_iadd C dL_lengthOf_12 (q := 13) rfl ?_
  refine w_iconst (v := (2)) C dL_lengthOf_13 (by decide) (q := 14) rfl ?_
  refine w_iremL C (by decide) dL_lengthOf_14 (q := 15) rfl ?_
  refine w_iadd C dL_lengthOf_15 (q := 16) rfl ?_
  exact w_iret C (hK _) rfl dL_lengthOf_16
theorem c_L_lengthOf (l : Launch) (G : Gx) (p1 : Int32) (p2 : Int32) (p3 : Int32)  (I : Mem) {x : Int32} (h : m_L_lengthOf p1 p2 p3 I = some x) : Ct l G yL_lengthOf cL_lengthOf 3 (some (.int)) 0 0 [.int p1, .int p2, .int p3] I (some (.int x)) I := Ct.of (by decide +kernel) rfl (Nat.le_of_ble_eq_true rfl) ret_i (fun Z hG hl C hR hret => by
  subst hG
  exact m_L_lengthOf_ok (K := fun y => y = x) C hR p1 p2 p3  I (fun y hy => by subst hy; exact hret) x h rfl)
def m_L_feedAll_b90 (p1 : Nat) (Xs : Nat × (Nat → Int32)) (p3 : Int32) (p4 : Int32) (p5 : Int32) (x5 : Int32) (x6 : Int32) (x7 : Int32) (x8 : Int32) (I : Mem) : Option ((Int32 × Mem) ⊕ ((Mem))) :=
  Option.bind (m_L_lengthOf x6 x5 x7 I) fun r8 => if r8 ≤ x8 then (some (.inr (I))) else (Option.bind (m_X11_feed p1 ((63 : Int32)) I) fun r9 => Option.bind (m_L_letter (((x6 / 7) + (((11 : Int32)) * x7)) + x8) r9.2) fun r10 => Option.bind (m_X11_feed p1 r10 r9.2) fun r11 => some (.inl (x8 + 1, r11.2)))
set_option maxRecDepth 100000 in
set_option maxHeartbeats 4000000 in
theorem m_L_feedAll_b90_ok {Z : Zx} {K : ((Int32 × Mem) ⊕ ((Mem))) → Prop} (C : Cx Z cL_feedAll 9 RL) (hR : RM Z 3 63) (p1 : Nat) (Xs : Nat × (Nat → Int32)) (p3 : Int32) (p4 : Int32) (p5 : Int32) (x5 : Int32) (x6 : Int32) (x7 : Int32) (x8 : Int32) (hp1 : isO p1 11) (hXs : Xs = sG (zG Z)) (I : Mem) (hB : ∀ a, K (.inl a) → WM Z a.2 90 [some (rf (zG Z) p1), some (.ref (Gb (zG Z))), some (.int p3), some (.int p4), some (.int p5), some (.int x5), some (.int x6), some (.int x7), some (.int a.1)] []) (hX0 : ∀ b, K (.inr (b)) → WM Z b 139 [some (rf (zG Z) p1), some (.ref (Gb (zG Z))), some (.int p3), some (.int p4), some (.int p5), some (.int x5), some (.int x6), some (.int x7), none] []) : WF Z K (m_L_feedAll_b90 p1 Xs p3 p4 p5 x5 x6 x7 x8 I) I 90 [some (rf (zG Z) p1), some (.ref (Gb (zG Z))), some (.int p3), some (.int p4), some (.int p5), some (.int x5), some (.int x6), some (.int x7), some (.int x8)] [] := by
  unfold m_L_feedAll_b90
  refine w_iload (v := x8) C dL_feedAll_90 rfl (q := 92) rfl ?_
  refine w_iload (v := x6) C dL_feedAll_92 rfl (q := 94) rfl ?_
  refine w_iload (v := x5) C dL_feedAll_94 rfl (q := 96) rfl ?_
  refine w_iload (v := x7) C dL_feedAll_96 rfl (q := 98) rfl ?_
  refine w_callS (val := fun r8 => some (.int r8)) (mem := fun r8 => I) (st1 := fun r8 => [.int r8, .int x8]) (As := [.int x6, .int x5, .int x7]) (st := [.int x8]) (q := 101) C hR (fun x h => c_L_lengthOf (zl Z) (zG Z) x6 x5 x7  I h) mv_L_lengthOf lk_L_45 rfl (by decide) (fun _ => rfl) (Nat.le_of_ble_eq_true rfl) rfl rfl dL_feedAll_98 rfl (fun r8 => ?_)
  refine w_icmp_ge (tgt := 139) (q := 104) C dL_feedAll_101 (by decide) rfl (fun _ => ?_) (fun _ => ?_)
  · exact w_jmp (fun h => WM.less (L' := [some (rf (zG Z) p1), some (.ref (Gb (zG Z))), some (.int p3), some (.int p4), some (.int p5), some (.int x5), some (.int x6), some (.int x7), none]) (hX0 _ h) ⟨rfl, rfl, rfl, rfl, rfl, rfl, rfl, rfl, trivial⟩)
  · refine w_aload_n (v := p1) C dL_feedAll_104 rfl (q := 105) rfl ?_
    refine w_bipush (v := (63)) C dL_feedAll_105 (by decide) (q := 107) rfl ?_
    refine w_callV (val := fun r9 => some (.int r9.1)) (mem := fun r9 => r9.2) (st1 := fun r9 => [.int r9.1]) (As := [.int 63]) (st := []) (q := 110) C hR (fun x h => c_X11_feed (zl Z) (zG Z) ((63 : Int32)) hp1 I h) hp1 mv_X11_feed lk_L_31 rfl (by decide) (fun _ => rfl) (Nat.le_of_ble_eq_true rfl) rfl rfl dL_feedAll_107 rfl (fun r9 => ?_)
    refine w_pop C dL_feedAll_110 rfl (q := 111) rfl ?_
    refine w_aload_n (v := p1) C dL_feedAll_111 rfl (q := 112) rfl ?_
    refine w_iload (v := x6) C dL_feedAll_112 rfl (q := 114) rfl ?_
    refine w_bipush (v := (7)) C dL_feedAll_114 (by decide) (q := 116) rfl ?_
    refine w_idivL C (by decide) dL_feedAll_116 (q := 117) rfl ?_
    refine w_bipush (v := (11)) C dL_feedAll_117 (by decide) (q := 119) rfl ?_
    refine w_iload (v := x7) C dL_feedAll_119 rfl (q := 121) rfl ?_
    refine w_imul C dL_feedAll_121 (q := 122) rfl ?_
    refine w_iadd C dL_feedAll_122 (q := 123) rfl ?_
    refine w_iload (v := x8) C dL_feedAll_123 rfl (q := 125) rfl ?_
    refine w_iadd C dL_feedAll_125 (q := 126) rfl ?_
    refine w_callS (val := fun r10 => some (.int r10)) (mem := fun r10 => r9.2) (st1 := fun r10 => [.int r10, rf (zG Z) p1]) (As := [.int (((x6 / 7) + (((11 : Int32)) * x7)) + x8)]) (st := [rf (zG Z) p1]) (q := 129) C hR (fun x h => c_L_letter (zl Z) (zG Z) (((x6 / 7) + (((11 : Int32)) * x7)) + x8)  r9.2 h) mv_L_letter lk_L_49 rfl (by decide) (fun _ => rfl) (Nat.le_of_ble_eq_true rfl) rfl rfl dL_feedAll_126 rfl (fun r10 => ?_)
    refine w_callV (val := fun r11 => some (.int r11.1)) (mem := fun r11 => r11.2) (st1 := fun r11 => [.int r11.1]) (As := [.int r10]) (st := []) (q := 132) C hR (fun x h => c_X11_feed (zl Z) (zG Z) r10 hp1 r9.2 h) hp1 mv_X11_feed lk_L_31 rfl (by decide) (fun _ => rfl) (Nat.le_of_ble_eq_true rfl) rfl rfl dL_feedAll_129 rfl (fun r11 => ?_)
    refine w_pop C dL_feedAll_132 rfl (q := 133) rfl ?_
    refine w_iinc (v := x8 + 1) C dL_feedAll_133 rfl rfl (L' := [some (rf (zG Z) p1), some (.ref (Gb (zG Z))), some (.int p3), some (.int p4), some (.int p5), some (.int x5), some (.int x6), some (.int x7), some (.int (x8 + 1))]) rfl (q := 136) rfl ?_
    refine w_goto (tgt := 90) C dL_feedAll_136 (by decide) ?_
    exact w_jmp (fun h => WM.less (L' := [some (rf (zG Z) p1), some (.ref (Gb (zG Z))), some (.int p3), some (.int p4), some (.int p5), some (.int x5), some (.int x6), some (.int x7), some (.int (x8 + 1))]) (hB _ h) ⟨rfl, rfl, rfl, rfl, rfl, rfl, rfl, rfl, rfl, trivial⟩)
def m_L_feedAll_b62 (p1 : Nat) (Xs : Nat × (Nat → Int32)) (p3 : Int32) (p4 : Int32) (p5 : Int32) (x5 : Int32) (x6 : Int32) (x7 : Int32) (I : Mem) : Option ((Int32 × Mem) ⊕ ((Mem))) :=
  if (x6 / 4) - (x6 / 4) / 6 * 6 ≤ x7 then (some (.inr (I))) else (if 5 ≤ x7 then (some (.inr (I))) else (Option.bind (m_X11_feed p1 ((43 : Int32)) I) fun r7 => Option.bind (loopF (fun a => m_L_feedAll_b90 p1 Xs p3 p4 p5 x5 x6 x7 a.1 a.2) FU ((0 : Int32), r7.2)) (fun b12 => some (.inl (x7 + 1, b12)))))
set_option maxRecDepth 100000 in
set_option maxHeartbeats 4000000 in
theorem m_L_feedAll_b62_ok {Z : Zx} {K : ((Int32 × Mem) ⊕ ((Mem))) → Prop} (C : Cx Z cL_feedAll 9 RL) (hR : RM Z 3 63) (p1 : Nat) (Xs : Nat × (Nat → Int32)) (p3 : Int32) (p4 : Int32) (p5 : Int32) (x5 : Int32) (x6 : Int32) (x7 : Int32) (hp1 : isO p1 11) (hXs : Xs = sG (zG Z)) (I : Mem) (hB : ∀ a, K (.inl a) → WM Z a.2 62 [some (rf (zG Z) p1), some (.ref (Gb (zG Z))), some (.int p3), some (.int p4), some (.int p5), some (.int x5), some (.int x6), some (.int a.1), none] []) (hX0 : ∀ b, K (.inr (b)) → WM Z b 145 [some (rf (zG Z) p1), some (.ref (Gb (zG Z))), some (.int p3), some (.int p4), some (.int p5), some (.int x5), none, none, none] []) : WF Z K (m_L_feedAll_b62 p1 Xs p3 p4 p5 x5 x6 x7 I) I 62 [some (rf (zG Z) p1), some (.ref (Gb (zG Z))), some (.int p3), some (.int p4), some (.int p5), some (.int x5), some (.int x6), some (.int x7), none] [] := by
  unfold m_L_feedAll_b62
  refine w_iload (v := x7) C dL_feedAll_62 rfl (q := 64) rfl ?_
  refine w_iload (v := x6) C dL_feedAll_64 rfl (q := 66) rfl ?_
  refine w_iconst (v := (4)) C dL_feedAll_66 (by decide) (q := 67) rfl ?_
  refine w_idivL C (by decide) dL_feedAll_67 (q := 68) rfl ?_
  refine w_bipush (v := (6)) C dL_feedAll_68 (by decide) (q := 70) rfl ?_
  refine w_iremL C (by decide) dL_feedAll_70 (q := 71) rfl ?_
  refine w_icmp_ge (tgt := 145) (q := 74) C dL_feedAll_71 (by decide) rfl (fun _ => ?_) (fun _ => ?_)
  · exact w_jmp (fun h => WM.less (L' := [some (rf (zG Z) p1), some (.ref (Gb (zG Z))), some (.int p3), some (.int p4), some (.int p5), some (.int x5), none, none, none]) (hX0 _ h) ⟨rfl, rfl, rfl, rfl, rfl, rfl, trivial⟩)
  · refine w_iload (v := x7) C dL_feedAll_74 rfl (q := 76) rfl ?_
    refine w_iconst (v := (5)) C dL_feedAll_76 (by decide) (q := 77) rfl ?_
    refine w_icmp_ge (tgt := 145) (q := 80) C dL_feedAll_77 (by decide) rfl (fun _ => ?_) (fun _ => ?_)
    · exact w_jmp (fun h => WM.less (L' := [some (rf (zG Z) p1), some (.ref (Gb (zG Z))), some (.int p3), some (.int p4), some (.int p5), some (.int x5), none, none, none]) (hX0 _ h) ⟨rfl, rfl, rfl, rfl, rfl, rfl, trivial⟩)
    · refine w_aload_n (v := p1) C dL_feedAll_80 rfl (q := 81) rfl ?_
      refine w_bipush (v := (43)) C dL_feedAll_81 (by decide) (q := 83) rfl ?_
      refine w_callV (val := fun r7 => some (.int r7.1)) (mem := fun r7 => r7.2) (st1 := fun r7 => [.int r7.1]) (As := [.int 43]) (st := []) (q := 86) C hR (fun x h => c_X11_feed (zl Z) (zG Z) ((43 : Int32)) hp1 I h) hp1 mv_X11_feed lk_L_31 rfl (by decide) (fun _ => rfl) (Nat.le_of_ble_eq_true rfl) rfl rfl dL_feedAll_83 rfl (fun r7 => ?_)
      refine w_pop C dL_feedAll_86 rfl (q := 87) rfl ?_
      refine w_iconst (v := (0)) C dL_feedAll_87 (by decide) (q := 88) rfl ?_
      refine w_istore C dL_feedAll_88 (Nat.le_of_ble_eq_true rfl) (L' := [some (rf (zG Z) p1), some (.ref (Gb (zG Z))), some (.int p3), some (.int p4), some (.int p5), some (.int x5), some (.int x6), some (.int x7), some (.int 0)]) rfl (q := 90) rfl ?_
      refine WF.less (L' := [some (rf (zG Z) p1), some (.ref (Gb (zG Z))), some (.int p3), some (.int p4), some (.int p5), some (.int x5), some (.int x6), some (.int x7), some (.int 0)]) (w_loopF (pc := 90) (a := ((0 : Int32), r7.2)) (mem := fun a => a.2) (lo := fun a => [some (rf (zG Z) p1), some (.ref (Gb (zG Z))), some (.int p3), some (.int p4), some (.int p5), some (.int x5), some (.int x6), some (.int x7), some (.int a.1)]) (E := fun b12 => WM Z b12 139 [some (rf (zG Z) p1), some (.ref (Gb (zG Z))), some (.int p3), some (.int p4), some (.int p5), some (.int x5), some (.int x6), some (.int x7), none] []) (fun a => m_L_feedAll_b90_ok C hR p1 Xs p3 p4 p5 x5 x6 x7 a.1 hp1 hXs a.2 (fun _ h => h) (fun _ h => h)) ?_) ⟨rfl, rfl, rfl, rfl, rfl, rfl, rfl, rfl, rfl, trivial⟩
      intro b12
      refine w_hx ?_
      refine w_iinc (v := x7 + 1) C dL_feedAll_139 rfl rfl (L' := [some (rf (zG Z) p1), some (.ref (Gb (zG Z))), some (.int p3), some (.int p4), some (.int p5), some (.int x5), some (.int x6), some (.int (x7 + 1)), none]) rfl (q := 142) rfl ?_
      refine w_goto (tgt := 62) C dL_feedAll_142 (by decide) ?_
      exact w_jmp (fun h => WM.less (L' := [some (rf (zG Z) p1), some (.ref (Gb (zG Z))), some (.int p3), some (.int p4), some (.int p5), some (.int x5), some (.int x6), some (.int (x7 + 1)), none]) (hB _ h) ⟨rfl, rfl, rfl, rfl, rfl, rfl, rfl, rfl, trivial⟩)
def m_L_feedAll_b30 (p1 : Nat) (Xs : Nat × (Nat → Int32)) (p3 : Int32) (p4 : Int32) (p5 : Int32) (x5 : Int32) (I : Mem) : Option ((Int32 × Mem) ⊕ ((Mem))) :=
  if p4 ≤ x5 then (some (.inr (I))) else (Option.bind (m_L_part Xs (p3 + x5) I) fun r5 => Option.bind (m_X11_feed p1 (((((65 : Int32)) + (r5 - r5 / 3 * 3)).toUInt32 % 65536).toInt32) I) fun r6 => Option.bind (loopF (fun a => m_L_feedAll_b62 p1 Xs p3 p4 p5 x5 r5 a.1 a.2) FU ((0 : Int32), r6.2)) (fun b13 => Option.bind (m_X11_feed p1 ((39 : Int32)) b13) fun r14 => some (.inl (x5 + 1, r14.2))))
set_option maxRecDepth 100000 in
set_option maxHeartbeats 4000000 in
theorem m_L_feedAll_b30_ok {Z : Zx} {K : ((Int32 × Mem) ⊕ ((Mem))) → Prop} (C : Cx Z cL_feedAll 9 RL) (hR : RM Z 3 63) (p1 : Nat) (Xs : Nat × (Nat → Int32)) (p3 : Int32) (p4 : Int32) (p5 : Int32) (x5 : Int32) (hp1 : isO p1 11) (hXs : Xs = sG (zG Z)) (I : Mem) (hB : ∀ a, K (.inl a) → WM Z a.2 30 [some (rf (zG Z) p1), some (.ref (Gb (zG Z))), some (.int p3), some (.int p4), some (.int p5), some (.int a.1), none, none, none] []) (hX0 : ∀ b, K (.inr (b)) → WM Z b 158 [some (rf (zG Z) p1), none, none, some (.int p4), some (.int p5), none, none, none, none] []) : WF Z K (m_L_feedAll_b30 p1 Xs p3 p4 p5 x5 I) I 30 [some (rf (zG Z) p1), some (.ref (Gb (zG Z))), some (.int p3), some (.int p4), some (.int p5), some (.int x5), none, none, none] [] := by
  unfold m_L_feedAll_b30
  refine w_iload (v := x5) C dL_feedAll_30 rfl (q := 32) rfl ?_
  refine w_iload_n (v := p4) C dL_feedAll_32 rfl (q := 33) rfl ?_
  refine w_icmp_ge (tgt := 158) (q := 36) C dL_feedAll_33 (by decide) rfl (fun _ => ?_) (fun _ => ?_)
  · exact w_jmp (fun h => WM.less (L' := [some (rf (zG Z) p1), none, none, some (.int p4), some (.int p5), none, none, none, none]) (hX0 _ h) ⟨rfl, rfl, rfl, trivial⟩)
  · refine w_aloadB (b := Gb (zG Z)) C dL_feedAll_36 rfl (q := 37) rfl ?_
    refine w_iload_n (v := p3) C dL_feedAll_37 rfl (q := 38) rfl ?_
    refine w_iload (v := x5) C dL_feedAll_38 rfl (q := 40) rfl ?_
    refine w_iadd C dL_feedAll_40 (q := 41) rfl ?_
    refine w_callS (val := fun r5 => some (.int r5)) (mem := fun r5 => I) (st1 := fun r5 => [.int r5]) (As := [.ref (Gb (zG Z)), .int (p3 + x5)]) (st := []) (q := 44) C hR (fun x h => c_L_part (zl Z) (zG Z) (p3 + x5) hXs I h) mv_L_part lk_L_41 rfl (by decide) (fun _ => rfl) (Nat.le_of_ble_eq_true rfl) rfl rfl dL_feedAll_41 rfl (fun r5 => ?_)
    refine w_istore C dL_feedAll_44 (Nat.le_of_ble_eq_true rfl) (L' := [some (rf (zG Z) p1), some (.ref (Gb (zG Z))), some (.int p3), some (.int p4), some (.int p5), some (.int x5), some (.int r5), none, none]) rfl (q := 46) rfl ?_
    refine w_aload_n (v := p1) C dL_feedAll_46 rfl (q := 47) rfl ?_
    refine w_bipush (v := (65)) C dL_feedAll_47 (by decide) (q := 49) rfl ?_
    refine w_iload (v := r5) C dL_feedAll_49 rfl (q := 51) rfl ?_
    refine w_iconst (v := (3)) C dL_feedAll_51 (by decide) (q := 52) rfl ?_
    refine w_iremL C (by decide) dL_feedAll_52 (q := 53) rfl ?_
    refine w_iadd C dL_feedAll_53 (q := 54) rfl ?_
    refine w_i2c C dL_feedAll_54 (q := 55) rfl ?_
    refine w_callV (val := fun r6 => some (.int r6.1)) (mem := fun r6 => r6.2) (st1 := fun r6 => [.int r6.1]) (As := [.int (((((65 : Int32)) + (r5 - r5 / 3 * 3)).toUInt32 % 65536).toInt32)]) (st := []) (q := 58) C hR (fun x h => c_X11_feed (zl Z) (zG Z) (((((65 : Int32)) + (r5 - r5 / 3 * 3)).toUInt32 % 65536).toInt32) hp1 I h) hp1 mv_X11_feed lk_L_31 rfl (by decide) (fun _ => rfl) (Nat.le_of_ble_eq_true rfl) rfl rfl dL_feedAll_55 rfl (fun r6 => ?_)
    refine w_pop C dL_feedAll_58 rfl (q := 59) rfl ?_
    refine w_iconst (v := (0)) C dL_feedAll_59 (by decide) (q := 60) rfl ?_
    refine w_istore C dL_feedAll_60 (Nat.le_of_ble_eq_true rfl) (L' := [some (rf (zG Z) p1), some (.ref (Gb (zG Z))), some (.int p3), some (.int p4), some (.int p5), some (.int x5), some (.int r5), some (.int 0), none]) rfl (q := 62) rfl ?_
    refine WF.less (L' := [some (rf (zG Z) p1), some (.ref (Gb (zG Z))), some (.int p3), some (.int p4), some (.int p5), some (.int x5), some (.int r5), some (.int 0), none]) (w_loopF (pc := 62) (a := ((0 : Int32), r6.2)) (mem := fun a => a.2) (lo := fun a => [some (rf (zG Z) p1), some (.ref (Gb (zG Z))), some (.int p3), some (.int p4), some (.int p5), some (.int x5), some (.int r5), some (.int a.1), none]) (E := fun b13 => WM Z b13 145 [some (rf (zG Z) p1), some (.ref (Gb (zG Z))), some (.int p3), some (.int p4), some (.int p5), some (.int x5), none, none, none] []) (fun a => m_L_feedAll_b62_ok C hR p1 Xs p3 p4 p5 x5 r5 a.1 hp1 hXs a.2 (fun _ h => h) (fun _ h => h)) ?_) ⟨rfl, rfl, rfl, rfl, rfl, rfl, rfl, rfl, trivial⟩
    intro b13
    refine w_hx ?_
    refine w_aload_n (v := p1) C dL_feedAll_145 rfl (q := 146) rfl ?_
    refine w_bipush (v := (39)) C dL_feedAll_146 (by decide) (q := 148) rfl ?_
    refine w_callV (val := fun r14 => some (.int r14.1)) (mem := fun r14 => r14.2) (st1 := fun r14 => [.int r14.1]) (As := [.int 39]) (st := []) (q := 151) C hR (fun x h => c_X11_feed (zl Z) (zG Z) ((39 : Int32)) hp1 b13 h) hp1 mv_X11_feed lk_L_31 rfl (by decide) (fun _ => rfl) (Nat.le_of_ble_eq_true rfl) rfl rfl dL_feedAll_148 rfl (fun r14 => ?_)
    refine w_pop C dL_feedAll_151 rfl (q := 152) rfl ?_
    refine w_iinc (v := x5 + 1) C dL_feedAll_152 rfl rfl (L' := [some (rf (zG Z) p1), some (.ref (Gb (zG Z))), some (.int p3), some (.int p4), some (.int p5), some (.int (x5 + 1)), none, none, none]) rfl (q := 155) rfl ?_
    refine w_goto (tgt := 30) C dL_feedAll_155 (by decide) ?_
    exact w_jmp (fun h => WM.less (L' := [some (rf (zG Z) p1), some (.ref (Gb (zG Z))), some (.int p3), some (.int p4), some (.int p5), some (.int (x5 + 1)), none, none, none]) (hB _ h) ⟨rfl, rfl, rfl, rfl, rfl, rfl, trivial⟩)
def m_L_feedAll (p1 : Nat) (Xs : Nat × (Nat → Int32)) (p3 : Int32) (p4 : Int32) (p5 : Int32) (I : Mem) : Option (Mem) :=
  Option.bind (m_X11_feed p1 ((72 : Int32)) I) fun r1 => Option.bind (m_X11_feed p1 ((43 : Int32)) r1.2) fun r2 => Option.bind (m_L_feedNumber p1 p5 r2.2) fun I3 => Option.bind (m_X11_feed p1 ((39 : Int32)) I3) fun r4 => Option.bind (loopF (fun a => m_L_feedAll_b30 p1 Xs p3 p4 p5 a.1 a.2) FU ((0 : Int32), r4.2)) (fun b15 => Option.bind (m_X11_feed p1 ((84 : Int32)) b15) fun r16 => Option.bind (m_X11_feed p1 ((43 : Int32)) r16.2) fun r17 => Option.bind (m_L_feedNumber p1 (p4 + 2) r17.2) fun I18 => Option.bind (m_X11_feed p1 ((43 : Int32)) I18) fun r19 => Option.bind (m_L_feedNumber p1 p5 r19.2) fun I20 => Option.bind (m_X11_feed p1 ((39 : Int32)) I20) fun r21 => some r21.2)
set_option maxRecDepth 100000 in
set_option maxHeartbeats 4000000 in
theorem m_L_feedAll_ok {Z : Zx} {K : Mem → Prop} (C : Cx Z cL_feedAll 9 RL) (hR : RM Z 3 63) (p1 : Nat) (Xs : Nat × (Nat → Int32)) (p3 : Int32) (p4 : Int32) (p5 : Int32) (hp1 : isO p1 11) (hXs : Xs = sG (zG Z)) (I : Mem) (hK : ∀ y, K (y) → RetV Z cL_feedAll y) : WF Z K (m_L_feedAll p1 Xs p3 p4 p5 I) I 0 [some (rf (zG Z) p1), some (.ref (Gb (zG Z))), some (.int p3), some (.int p4), some (.int p5), none, none, none, none] [] := by
  unfold m_L_feedAll
  refine w_aload_n (v := p1) C dL_feedAll_0 rfl (q := 1) rfl ?_
  refine w_bipush (v := (72)) C dL_feedAll_1 (by decide) (q := 3) rfl ?_
  refine w_callV (val := fun r1 => some (.int r1.1)) (mem := fun r1 => r1.2) (st1 := fun r1 => [.int r1.1]) (As := [.int 72]) (st := []) (q := 6) C hR (fun x h => c_X11_feed (zl Z) (zG Z) ((72 : Int32)) hp1 I h) hp1 mv_X11_feed lk_L_31 rfl (by decide) (fun _ => rfl) (Nat.le_of_ble_eq_true rfl) rfl rfl dL_feedAll_3 rfl (fun r1 => ?_)
  refine w_pop C dL_feedAll_6 rfl (q := 7) rfl ?_
  refine w_aload_n (v := p1) C dL_feedAll_7 rfl (q := 8) rfl ?_
  refine w_bipush (v := (43)) C dL_feedAll_8 (by decide) (q := 10) rfl ?_
  refine w_callV (val := fun r2 => some (.int r2.1)) (mem := fun r2 => r2.2) (st1 := fun r2 => [.int r2.1]) (As := [.int 43]) (st := []) (q := 13) C hR (fun x h => c_X11_feed (zl Z) (zG Z) ((43 : Int32)) hp1 r1.2 h) hp1 mv_X11_feed lk_L_31 rfl (by decide) (fun _ => rfl) (Nat.le_of_ble_eq_true rfl) rfl rfl dL_feedAll_10 rfl (fun r2 => ?_)
  refine w_pop C dL_feedAll_13 rfl (q := 14) rfl ?_
  refine w_aload_n (v := p1) C dL_feedAll_14 rfl (q := 15) rfl ?_
  refine w_iload (v := p5) C dL_feedAll_15 rfl (q := 17) rfl ?_
  refine w_callS (val := fun I3 => none) (mem := fun I3 => I3) (st1 := fun I3 => []) (As := [rf (zG Z) p1, .int p5]) (st := []) (q := 20) C hR (fun x h => c_L_feedNumber (zl Z) (zG Z) p5 hp1 r2.2 h) mv_L_feedNumber lk_L_35 rfl (by decide) (fun _ => rfl) (Nat.le_of_ble_eq_true rfl) rfl rfl dL_feedAll_17 rfl (fun I3 => ?_)
  refine w_aload_n (v := p1) C dL_feedAll_20 rfl (q := 21) rfl ?_
  refine w_bipush (v := (39)) C dL_feedAll_21 (by decide) (q := 23) rfl ?_
  refine w_callV (val := fun r4 => some (.int r4.1)) (mem := fun r4 => r4.2) (st1 := fun r4 => [.int r4.1]) (As := [.int 39]) (st := []) (q := 26) C hR (fun x h => c_X11_feed (zl Z) (zG Z) ((39 : Int32)) hp1 I3 h) hp1 mv_X11_feed lk_L_31 rfl (by decide) (fun _ => rfl) (Nat.le_of_ble_eq_true rfl) rfl rfl dL_feedAll_23 rfl (fun r4 => ?_)
  refine w_pop C dL_feedAll_26 rfl (q := 27) rfl ?_
  refine w_iconst (v := (0)) C dL_feedAll_27 (by decide) (q := 28) rfl ?_
  refine w_istore C dL_feedAll_28 (Nat.le_of_ble_eq_true rfl) (L' := [some (rf (zG Z) p1), some (.ref (Gb (zG Z))), some (.int p3), some (.int p4), some (.int p5), some (.int 0), none, none, none]) rfl (q := 30) rfl ?_
  refine WF.less (L' := [some (rf (zG Z) p1), some (.ref (Gb (zG Z))), some (.int p3), some (.int p4), some (.int p5), some (.int 0), none, none, none]) (w_loopF (pc := 30) (a := ((0 : Int32), r4.2)) (mem := fun a => a.2) (lo := fun a => [some (rf (zG Z) p1), some (.ref (Gb (zG Z))), some (.int p3), some (.int p4), some (.int p5), some (.int a.1), none, none, none]) (E := fun b15 => WM Z b15 158 [some (rf (zG Z) p1), none, none, some (.int p4), some (.int p5), none, none, none, none] []) (fun a => m_L_feedAll_b30_ok C hR p1 Xs p3 p4 p5 a.1 hp1 hXs a.2 (fun _ h => h) (fun _ h => h)) ?_) ⟨rfl, rfl, rfl, rfl, rfl, rfl, trivial⟩
  intro b15
  refine w_hx ?_
  refine w_aload_n (v := p1) C dL_feedAll_158 rfl (q := 159) rfl ?_
  refine w_bipush (v := (84)) C dL_feedAll_159 (by decide) (q := 161) rfl ?_
  refine w_callV (val := fun r16 => some (.int r16.1)) (mem := fun r16 => r16.2) (st1 := fun r16 => [.int r16.1]) (As := [.int 84]) (st := []) (q := 164) C hR (fun x h => c_X11_feed (zl Z) (zG Z) ((84 : Int32)) hp1 b15 h) hp1 mv_X11_feed lk_L_31 rfl (by decide) (fun _ => rfl) (Nat.le_of_ble_eq_true rfl) rfl rfl dL_feedAll_161 rfl (fun r16 => ?_)
  refine w_pop C dL_feedAll_164 rfl (q := 165) rfl ?_
  refine w_aload_n (v := p1) C dL_feedAll_165 rfl (q := 166) rfl ?_
  refine w_bipush (v := (43)) C dL_feedAll_166 (by decide) (q := 168) rfl ?_
  refine w_callV (val := fun r17 => some (.int r17.1)) (mem := fun r17 => r17.2) (st1 := fun r17 => [.int r17.1]) (As := [.int 43]) (st := []) (q := 171) C hR (fun x h => c_X11_feed (zl Z) (zG Z) ((43 : Int32)) hp1 r16.2 h) hp1 mv_X11_feed lk_L_31 rfl (by decide) (fun _ => rfl) (Nat.le_of_ble_eq_true rfl) rfl rfl dL_feedAll_168 rfl (fun r17 => ?_)
  refine w_pop C dL_feedAll_171 rfl (q := 172) rfl ?_
  refine w_aload_n (v := p1) C dL_feedAll_172 rfl (q := 173) rfl ?_
  refine w_iload_n (v := p4) C dL_feedAll_173 rfl (q := 174) rfl ?_
  refine w_iconst (v := (2)) C dL_feedAll_174 (by decide) (q := 175) rfl ?_
  refine w_iadd C dL_feedAll_175 (q := 176) rfl ?_
  refine w_callS (val := fun I18 => none) (mem := fun I18 => I18) (st1 := fun I18 => []) (As := [rf (zG Z) p1, .int (p4 + 2)]) (st := []) (q := 179) C hR (fun x h => c_L_feedNumber (zl Z) (zG Z) (p4 + 2) hp1 r17.2 h) mv_L_feedNumber lk_L_35 rfl (by decide) (fun _ => rfl) (Nat.le_of_ble_eq_true rfl) rfl rfl dL_feedAll_176 rfl (fun I18 => ?_)
  refine w_aload_n (v := p1) C dL_feedAll_179 rfl (q := 180) rfl ?_
  refine w_bipush (v := (43)) C dL_feedAll_180 (by decide) (q := 182) rfl ?_
  refine w_callV (val := fun r19 => some (.int r19.1)) (mem := fun r19 => r19.2) (st1 := fun r19 => [.int r19.1]) (As := [.int 43]) (st := []) (q := 185) C hR (fun x h => c_X11_feed (zl Z) (zG Z) ((43 : Int32)) hp1 I18 h) hp1 mv_X11_feed lk_L_31 rfl (by decide) (fun _ => rfl) (Nat.le_of_ble_eq_true rfl) rfl rfl dL_feedAll_182 rfl (fun r19 => ?_)
  refine w_pop C dL_feedAll_185 rfl (q := 186) rfl ?_
  refine w_aload_n (v := p1) C dL_feedAll_186 rfl (q := 187) rfl ?_
  refine w_iload (v := p5) C dL_feedAll_187 rfl (q := 189) rfl ?_
  refine w_callS (val := fun I20 => none) (mem := fun I20 => I20) (st1 := fun I20 => []) (As := [rf (zG Z) p1, .int p5]) (st := []) (q := 192) C hR (fun x h => c_L_feedNumber (zl Z) (zG Z) p5 hp1 r19.2 h) mv_L_feedNumber lk_L_35 rfl (by decide) (fun _ => rfl) (Nat.le_of_ble_eq_true rfl) rfl rfl dL_feedAll_189 rfl (fun I20 => ?_)
  refine w_aload_n (v := p1) C dL_feedAll_192 rfl (q := 193) rfl ?_
  refine w_bipush (v := (39)) C dL_feedAll_193 (by decide) (q := 195) rfl ?_
  refine w_callV (val := fun r21 => some (.int r21.1)) (mem := fun r21 => r21.2) (st1 := fun r21 => [.int r21.1]) (As := [.int 39]) (st := []) (q := 198) C hR (fun x h => c_X11_feed (zl Z) (zG Z) ((39 : Int32)) hp1 I20 h) hp1 mv_X11_feed lk_L_31 rfl (by decide) (fun _ => rfl) (Nat.le_of_ble_eq_true rfl) rfl rfl dL_feedAll_195 rfl (fun r21 => ?_)
  refine w_pop C dL_feedAll_198 rfl (q := 199) rfl ?_
  exact w_vret C (hK _) dL_feedAll_199
theorem c_L_feedAll (l : Launch) (G : Gx) {p1 : Nat} {Xs : Nat × (Nat → Int32)} (p3 : Int32) (p4 : Int32) (p5 : Int32) (hp1 : isO p1 11) (hXs : Xs = sG G) (I : Mem) {x : Mem} (h : m_L_feedAll p1 Xs p3 p4 p5 I = some x) : Ct l G yL_feedAll cL_feedAll 9 none 3 63 [rf G p1, .ref (Gb G), .int p3, .int p4, .int p5] I (none) x := Ct.of (by decide +kernel) rfl (Nat.le_of_ble_eq_true rfl) ret_v (fun Z hG hl C hR hret => by
  subst hG
  exact m_L_feedAll_ok (K := fun y => y = x) C hR p1 Xs p3 p4 p5 hp1 hXs I (fun y hy => by subst hy; exact hret) x h rfl)
def m_L_isAsFed_j219 (p1 : Nat) (Xs : Nat × (Nat → Int32)) (p3 : Int32) (p4 : Int32) (x5 : Int32) (x6 : Int32) (x7 : Int32) (x8 : Int32) (x9 : Int32) (y0 : Int32) (I : Mem) : Option ((Int32 × Int32) ⊕ ((Int32))) :=
  some (.inl (y0, x9 + 1))
set_option maxRecDepth 100000 in
set_option maxHeartbeats 4000000 in
theorem m_L_isAsFed_j219_ok {Z : Zx} {K : ((Int32 × Int32) ⊕ ((Int32))) → Prop} (C : Cx Z cL_isAsFed 10 RL) (hR : RM Z 4 87) (p1 : Nat) (Xs : Nat × (Nat → Int32)) (p3 : Int32) (p4 : Int32) (x5 : Int32) (x6 : Int32) (x7 : Int32) (x8 : Int32) (x9 : Int32) (y0 : Int32) (hp1 : isO p1 11) (hXs : Xs = sG (zG Z)) (I : Mem) (hB : ∀ a, K (.inl a) → WM Z I 165 [some (rf (zG Z) p1), some (.ref (Gb (zG Z))), some (.int p3), some (.int p4), some (.int a.1), some (.int x5), some (.int x6), some (.int x7), some (.int x8), some (.int a.2)] []) (hX0 : ∀ b, K (.inr (b)) → WM Z I 227 [some (rf (zG Z) p1), some (.ref (Gb (zG Z))), some (.int p3), some (.int p4), some (.int b), some (.int x5), some (.int x6), some (.int x7), some (.int x8), none] []) : WF Z K (m_L_isAsFed_j219 p1 Xs p3 p4 x5 x6 x7 x8 x9 y0 I) I 219 [some (rf (zG Z) p1), some (.ref (Gb (zG Z))), some (.int p3), some (.int p4), none, some (.int x5), some (.int x6), some (.int x7), some (.int x8), some (.int x9)] [.int y0] := by
  unfold m_L_isAsFed_j219
  refine w_istore C dL_isAsFed_219 (Nat.le_of_ble_eq_true rfl) (L' := [some (rf (zG Z) p1), some (.ref (Gb (zG Z))), some (.int p3), some (.int p4), some (.int y0), some (.int x5), some (.int x6), some (.int x7), some (.int x8), some (.int x9)]) rfl (q := 221) rfl ?_
  refine w_iinc (v := x9 + 1) C dL_isAsFed_221 rfl rfl (L' := [some (rf (zG Z) p1), some (.ref (Gb (zG Z))), some (.int p3), some (.int p4), some (.int y0), some (.int x5), some (.int x6), some (.int x7), some (.int x8), some (.int (x9 + 1))]) rfl (q := 224) rfl ?_
  refine w_goto (tgt := 165) C dL_isAsFed_224 (by decide) ?_
  exact w_jmp (fun h => WM.less (L' := [some (rf (zG Z) p1), some (.ref (Gb (zG Z))), some (.int p3), some (.int p4), some (.int y0), some (.int x5), some (.int x6), some (.int x7), some (.int x8), some (.int (x9 + 1))]) (hB _ h) ⟨rfl, rfl, rfl, rfl, rfl, rfl, rfl, rfl, rfl, rfl, trivial⟩)
def m_L_isAsFed_b165 (p1 : Nat) (Xs : Nat × (Nat → Int32)) (p3 : Int32) (p4 : Int32) (x5 : Int32) (x6 : Int32) (x7 : Int32) (x8 : Int32) (x4 : Int32) (x9 : Int32) (I : Mem) : Option ((Int32 × Int32) ⊕ ((Int32))) :=
  Option.bind (m_L_lengthOf x6 x5 x8 I) fun r6 => if r6 ≤ x9 then (some (.inr (x4))) else (if x4 = 0 then (some (.inr (x4))) else (Option.bind (m_X11_content p1 x5 x8 x9 I) fun r7 => Option.bind (m_L_letter (((x6 / 7) + (((11 : Int32)) * x8)) + x9) I) fun r8 => if r7 = r8 then (m_L_isAsFed_j219 p1 Xs p3 p4 x5 x6 x7 x8 x9 ((1 : Int32)) I) else (m_L_isAsFed_j219 p1 Xs p3 p4 x5 x6 x7 x8 x9 ((0 : Int32)) I)))
set_option maxRecDepth 100000 in
set_option maxHeartbeats 4000000 in
theorem m_L_isAsFed_b165_ok {Z : Zx} {K : ((Int32 × Int32) ⊕ ((Int32))) → Prop} (C : Cx Z cL_isAsFed 10 RL) (hR : RM Z 4 87) (p1 : Nat) (Xs : Nat × (Nat → Int32)) (p3 : Int32) (p4 : Int32) (x5 : Int32) (x6 : Int32) (x7 : Int32) (x8 : Int32) (x4 : Int32) (x9 : Int32) (hp1 : isO p1 11) (hXs : Xs = sG (zG Z)) (I : Mem) (hB : ∀ a, K (.inl a) → WM Z I 165 [some (rf (zG Z) p1), some (.ref (Gb (zG Z))), some (.int p3), some (.int p4), some (.int a.1), some (.int x5), some (.int x6), some (.int x7), some (.int x8), some (.int a.2)] []) (hX0 : ∀ b, K (.inr (b)) → WM Z I 227 [some (rf (zG Z) p1), some (.ref (Gb (zG Z))), some (.int p3), some (.int p4), some (.int b), some (.int x5), some (.int x6), some (.int x7), some (.int x8), none] []) : WF Z K (m_L_isAsFed_b165 p1 Xs p3 p4 x5 x6 x7 x8 x4 x9 I) I 165 [some (rf (zG Z) p1), some (.ref (Gb (zG Z))), some (.int p3), some (.int p4), some (.int x4), some (.int x5), some (.int x6), some (.int x7), some (.int x8), some (.int x9)] [] := by
  unfold m_L_isAsFed_b165
  refine w_iload (v := x9) C dL_isAsFed_165 rfl (q := 167) rfl ?_
  refine w_iload (v := x6) C dL_isAsFed_167 rfl (q := 169) rfl ?_
  refine w_iload (v := x5) C dL_isAsFed_169 rfl (q := 171) rfl ?_
  refine w_iload (v := x8) C dL_isAsFed_171 rfl (q := 173) rfl ?_
  refine w_callS (val := fun r6 => some (.int r6)) (mem := fun r6 => I) (st1 := fun r6 => [.int r6, .int x9]) (As := [.int x6, .int x5, .int x8]) (st := [.int x9]) (q := 176) C hR (fun x h => c_L_lengthOf (zl Z) (zG Z) x6 x5 x8  I h) mv_L_lengthOf lk_L_45 rfl (by decide) (fun _ => rfl) (Nat.le_of_ble_eq_true rfl) rfl rfl dL_isAsFed_173 rfl (fun r6 => ?_)
  refine w_icmp_ge (tgt := 227) (q := 179) C dL_isAsFed_176 (by decide) rfl (fun _ => ?_) (fun _ => ?_)
  · exact w_jmp (fun h => WM.less (L' := [some (rf (zG Z) p1), some (.ref (Gb (zG Z))), some (.int p3), some (.int p4), some (.int x4), some (.int x5), some (.int x6), some (.int x7), some (.int x8), none]) (hX0 _ h) ⟨rfl, rfl, rfl, rfl, rfl, rfl, rfl, rfl, rfl, trivial⟩)
  · refine w_iload (v := x4) C dL_isAsFed_179 rfl (q := 181) rfl ?_
    refine w_if_eq (tgt := 227) (q := 184) C dL_isAsFed_181 (by decide) rfl (fun _ => ?_) (fun _ => ?_)
    · exact w_jmp (fun h => WM.less (L' := [some (rf (zG Z) p1), some (.ref (Gb (zG Z))), some (.int p3), some (.int p4), some (.int x4), some (.int x5), some (.int x6), some (.int x7), some (.int x8), none]) (hX0 _ h) ⟨rfl, rfl, rfl, rfl, rfl, rfl, rfl, rfl, rfl, trivial⟩)
    · refine w_aload_n (v := p1) C dL_isAsFed_184 rfl (q := 185) rfl ?_
      refine w_iload (v := x5) C dL_isAsFed_185 rfl (q := 187) rfl ?_
      refine w_iload (v := x8) C dL_isAsFed_187 rfl (q := 189) rfl ?_
      refine w_iload (v := x9) C dL_isAsFed_189 rfl (q := 191) rfl ?_
      refine w_callV (val := fun r7 => some (.int r7)) (mem := fun r7 => I) (st1 := fun r7 => [.int r7]) (As := [.int x5, .int x8, .int x9]) (st := []) (q := 194) C hR (fun x h => c_X11_content (zl Z) (zG Z) x5 x8 x9 hp1 I h) hp1 mv_X11_content lk_L_72 rfl (by decide) (fun _ => rfl) (Nat.le_of_ble_eq_true rfl) rfl rfl dL_isAsFed_191 rfl (fun r7 => ?_)
      refine w_iload (v := x6) C dL_isAsFed_194 rfl (q := 196) rfl ?_
      refine w_bipush (v := (7)) C dL_isAsFed_196 (by decide) (q := 198) rfl ?_
      refine w_idivL C (by decide) dL_isAsFed_198 (q := 199) rfl ?_
      refine w_bipush (v := (11)) C dL_isAsFed_199 (by decide) (q := 201) rfl ?_
      refine w_iload (v := x8) C dL_isAsFed_201 rfl (q := 203) rfl ?_
      refine w_imul C dL_isAsFed_203 (q := 204) rfl ?_
      refine w_iadd C dL_isAsFed_204 (q := 205) rfl ?_
      refine w_iload (v := x9) C dL_isAsFed_205 rfl (q := 207) rfl ?_
      refine w_iadd C dL_isAsFed_207 (q := 208) rfl ?_
      refine w_callS (val := fun r8 => some (.int r8)) (mem := fun r8 => I) (st1 := fun r8 => [.int r8, .int r7]) (As := [.int (((x6 / 7) + (((11 : Int32)) * x8)) + x9)]) (st := [.int r7]) (q := 211) C hR (fun x h => c_L_letter (zl Z) (zG Z) (((x6 / 7) + (((11 : Int32)) * x8)) + x9)  I h) mv_L_letter lk_L_49 rfl (by decide) (fun _ => rfl) (Nat.le_of_ble_eq_true rfl) rfl rfl dL_isAsFed_208 rfl (fun r8 => ?_)
      refine w_icmp_ne (tgt := 218) (q := 214) C dL_isAsFed_211 (by decide) rfl (fun _ => ?_) (fun _ => ?_)
      · refine w_iconst (v := (1)) C dL_isAsFed_214 (by decide) (q := 215) rfl ?_
        refine w_goto (tgt := 219) C dL_isAsFed_215 (by decide) ?_
        exact WF.less (L' := [some (rf (zG Z) p1), some (.ref (Gb (zG Z))), some (.int p3), some (.int p4), none, some (.int x5), some (.int x6), some (.int x7), some (.int x8), some (.int x9)]) (m_L_isAsFed_j219_ok C hR p1 Xs p3 p4 x5 x6 x7 x8 x9 ((1 : Int32)) hp1 hXs I hB hX0) ⟨rfl, rfl, rfl, rfl, rfl, rfl, rfl, rfl, rfl, trivial⟩
      · refine w_iconst (v := (0)) C dL_isAsFed_218 (by decide) (q := 219) rfl ?_
        exact WF.less (L' := [some (rf (zG Z) p1), some (.ref (Gb (zG Z))), some (.int p3), some (.int p4), none, some (.int x5), some (.int x6), some (.int x7), some (.int x8), some (.int x9)]) (m_L_isAsFed_j219_ok C hR p1 Xs p3 p4 x5 x6 x7 x8 x9 ((0 : Int32)) hp1 hXs I hB hX0) ⟨rfl, rfl, rfl, rfl, rfl, rfl, rfl, rfl, rfl, trivial⟩
def m_L_isAsFed_j160 (p1 : Nat) (Xs : Nat × (Nat → Int32)) (p3 : Int32) (p4 : Int32) (x5 : Int32) (x6 : Int32) (x7 : Int32) (x8 : Int32) (y0 : Int32) (I : Mem) : Option ((Int32 × Int32) ⊕ ((Int32))) :=
  Option.bind (loopF (fun a => m_L_isAsFed_b165 p1 Xs p3 p4 x5 x6 x7 x8 a.1 a.2 I) FU (y0, (0 : Int32))) (fun b9 => some (.inl (b9, x8 + 1)))
set_option maxRecDepth 100000 in
set_option maxHeartbeats 4000000 in
theorem m_L_isAsFed_j160_ok {Z : Zx} {K : ((Int32 × Int32) ⊕ ((Int32))) → Prop} (C : Cx Z cL_isAsFed 10 RL) (hR : RM Z 4 87) (p1 : Nat) (Xs : Nat × (Nat → Int32)) (p3 : Int32) (p4 : Int32) (x5 : Int32) (x6 : Int32) (x7 : Int32) (x8 : Int32) (y0 : Int32) (hp1 : isO p1 11) (hXs : Xs = sG (zG Z)) (I : Mem) (hB : ∀ a, K (.inl a) → WM Z I 123 [some (rf (zG Z) p1), some (.ref (Gb (zG Z))), some (.int p3), some (.int p4), some (.int a.1), some (.int x5), some (.int x6), some (.int x7), some (.int a.2), none] []) (hX0 : ∀ b, K (.inr (b)) → WM Z I 233 [some (rf (zG Z) p1), some (.ref (Gb (zG Z))), some (.int p3), some (.int p4), some (.int b), some (.int x5), none, none, none, none] []) : WF Z K (m_L_isAsFed_j160 p1 Xs p3 p4 x5 x6 x7 x8 y0 I) I 160 [some (rf (zG Z) p1), some (.ref (Gb (zG Z))), some (.int p3), some (.int p4), none, some (.int x5), some (.int x6), some (.int x7), some (.int x8), none] [.int y0] := by
  unfold m_L_isAsFed_j160
  refine w_istore C dL_isAsFed_160 (Nat.le_of_ble_eq_true rfl) (L' := [some (rf (zG Z) p1), some (.ref (Gb (zG Z))), some (.int p3), some (.int p4), some (.int y0), some (.int x5), some (.int x6), some (.int x7), some (.int x8), none]) rfl (q := 162) rfl ?_
  refine w_iconst (v := (0)) C dL_isAsFed_162 (by decide) (q := 163) rfl ?_
  refine w_istore C dL_isAsFed_163 (Nat.le_of_ble_eq_true rfl) (L' := [some (rf (zG Z) p1), some (.ref (Gb (zG Z))), some (.int p3), some (.int p4), some (.int y0), some (.int x5), some (.int x6), some (.int x7), some (.int x8), some (.int 0)]) rfl (q := 165) rfl ?_
  refine WF.less (L' := [some (rf (zG Z) p1), some (.ref (Gb (zG Z))), some (.int p3), some (.int p4), some (.int y0), some (.int x5), some (.int x6), some (.int x7), some (.int x8), some (.int 0)]) (w_loopF (pc := 165) (a := (y0, (0 : Int32))) (mem := fun a => I) (lo := fun a => [some (rf (zG Z) p1), some (.ref (Gb (zG Z))), some (.int p3), some (.int p4), some (.int a.1), some (.int x5), some (.int x6), some (.int x7), some (.int x8), some (.int a.2)]) (E := fun b9 => WM Z I 227 [some (rf (zG Z) p1), some (.ref (Gb (zG Z))), some (.int p3), some (.int p4), some (.int b9), some (.int x5), some (.int x6), some (.int x7), some (.int x8), none] []) (fun a => m_L_isAsFed_b165_ok C hR p1 Xs p3 p4 x5 x6 x7 x8 a.1 a.2 hp1 hXs I (fun _ h => h) (fun _ h => h)) ?_) ⟨rfl, rfl, rfl, rfl, rfl, rfl, rfl, rfl, rfl, rfl, trivial⟩
  intro b9
  refine w_hx ?_
  refine w_iinc (v := x8 + 1) C dL_isAsFed_227 rfl rfl (L' := [some (rf (zG Z) p1), some (.ref (Gb (zG Z))), some (.int p3), some (.int p4), some (.int b9), some (.int x5), some (.int x6), some (.int x7), some (.int (x8 + 1)), none]) rfl (q := 230) rfl ?_
  refine w_goto (tgt := 123) C dL_isAsFed_230 (by decide) ?_
  exact w_jmp (fun h => WM.less (L' := [some (rf (zG Z) p1), some (.ref (Gb (zG Z))), some (.int p3), some (.int p4), some (.int b9), some (.int x5), some (.int x6), some (.int x7), some (.int (x8 + 1)), none]) (hB _ h) ⟨rfl, rfl, rfl, rfl, rfl, rfl, rfl, rfl, rfl, trivial⟩)
def m_L_isAsFed_b123 (p1 : Nat) (Xs : Nat × (Nat → Int32)) (p3 : Int32) (p4 : Int32) (x5 : Int32) (x6 : Int32) (x7 : Int32) (x4 : Int32) (x8 : Int32) (I : Mem) : Option ((Int32 × Int32) ⊕ ((Int32))) :=
  if x7 ≤ x8 then (some (.inr (x4))) else (if x4 = 0 then (some (.inr (x4))) else (Option.bind (m_X11_contentLength p1 x5 x8 I) fun r4 => Option.bind (m_L_lengthOf x6 x5 x8 I) fun r5 => if r4 = r5 then (m_L_isAsFed_j160 p1 Xs p3 p4 x5 x6 x7 x8 ((1 : Int32)) I) else (m_L_isAsFed_j160 p1 Xs p3 p4 x5 x6 x7 x8 ((0 : Int32)) I)))
set_option maxRecDepth 100000 in
set_option maxHeartbeats 4000000 in
theorem m_L_isAsFed_b123_ok {Z : Zx} {K : ((Int32 × Int32) ⊕ ((Int32))) → Prop} (C : Cx Z cL_isAsFed 10 RL) (hR : RM Z 4 87) (p1 : Nat) (Xs : Nat × (Nat → Int32)) (p3 : Int32) (p4 : Int32) (x5 : Int32) (x6 : Int32) (x7 : Int32) (x4 : Int32) (x8 : Int32) (hp1 : isO p1 11) (hXs : Xs = sG (zG Z)) (I : Mem) (hB : ∀ a, K (.inl a) → WM Z I 123 [some (rf (zG Z) p1), some (.ref (Gb (zG Z))), some (.int p3), some (.int p4), some (.int a.1), some (.int x5), some (.int x6), some (.int x7), some (.int a.2), none] []) (hX0 : ∀ b, K (.inr (b)) → WM Z I 233 [some (rf (zG Z) p1), some (.ref (Gb (zG Z))), some (.int p3), some (.int p4), some (.int b), some (.int x5), none, none, none, none] []) : WF Z K (m_L_isAsFed_b123 p1 Xs p3 p4 x5 x6 x7 x4 x8 I) I 123 [some (rf (zG Z) p1), some (.ref (Gb (zG Z))), some (.int p3), some (.int p4), some (.int x4), some (.int x5), some (.int x6), some (.int x7), some (.int x8), none] [] := by
  unfold m_L_isAsFed_b123
  refine w_iload (v := x8) C dL_isAsFed_123 rfl (q := 125) rfl ?_
  refine w_iload (v := x7) C dL_isAsFed_125 rfl (q := 127) rfl ?_
  refine w_icmp_ge (tgt := 233) (q := 130) C dL_isAsFed_127 (by decide) rfl (fun _ => ?_) (fun _ => ?_)
  · exact w_jmp (fun h => WM.less (L' := [some (rf (zG Z) p1), some (.ref (Gb (zG Z))), some (.int p3), some (.int p4), some (.int x4), some (.int x5), none, none, none, none]) (hX0 _ h) ⟨rfl, rfl, rfl, rfl, rfl, rfl, trivial⟩)
  · refine w_iload (v := x4) C dL_isAsFed_130 rfl (q := 132) rfl ?_
    refine w_if_eq (tgt := 233) (q := 135) C dL_isAsFed_132 (by decide) rfl (fun _ => ?_) (fun _ => ?_)
    · exact w_jmp (fun h => WM.less (L' := [some (rf (zG Z) p1), some (.ref (Gb (zG Z))), some (.int p3), some (.int p4), some (.int x4), some (.int x5), none, none, none, none]) (hX0 _ h) ⟨rfl, rfl, rfl, rfl, rfl, rfl, trivial⟩)
    · refine w_aload_n (v := p1) C dL_isAsFed_135 rfl (q := 136) rfl ?_
      refine w_iload (v := x5) C dL_isAsFed_136 rfl (q := 138) rfl ?_
      refine w_iload (v := x8) C dL_isAsFed_138 rfl (q := 140) rfl ?_
      refine w_callV (val := fun r4 => some (.int r4)) (mem := fun r4 => I) (st1 := fun r4 => [.int r4]) (As := [.int x5, .int x8]) (st := []) (q := 143) C hR (fun x h => c_X11_contentLength (zl Z) (zG Z) x5 x8 hp1 I h) hp1 mv_X11_contentLength lk_L_69 rfl (by decide) (fun _ => rfl) (Nat.le_of_ble_eq_true rfl) rfl rfl dL_isAsFed_140 rfl (fun r4 => ?_)
      refine w_iload (v := x6) C dL_isAsFed_143 rfl (q := 145) rfl ?_
      refine w_iload (v := x5) C dL_isAsFed_145 rfl (q := 147) rfl ?_
      refine w_iload (v := x8) C dL_isAsFed_147 rfl (q := 149) rfl ?_
      refine w_callS (val := fun r5 => some (.int r5)) (mem := fun r5 => I) (st1 := fun r5 => [.int r5, .int r4]) (As := [.int x6, .int x5, .int x8]) (st := [.int r4]) (q := 152) C hR (fun x h => c_L_lengthOf (zl Z) (zG Z) x6 x5 x8  I h) mv_L_lengthOf lk_L_45 rfl (by decide) (fun _ => rfl) (Nat.le_of_ble_eq_true rfl) rfl rfl dL_isAsFed_149 rfl (fun r5 => ?_)
      refine w_icmp_ne (tgt := 159) (q := 155) C dL_isAsFed_152 (by decide) rfl (fun _ => ?_) (fun _ => ?_)
      · refine w_iconst (v := (1)) C dL_isAsFed_155 (by decide) (q := 156) rfl ?_
        refine w_goto (tgt := 160) C dL_isAsFed_156 (by decide) ?_
        exact WF.less (L' := [some (rf (zG Z) p1), some (.ref (Gb (zG Z))), some (.int p3), some (.int p4), none, some (.int x5), some (.int x6), some (.int x7), some (.int x8), none]) (m_L_isAsFed_j160_ok C hR p1 Xs p3 p4 x5 x6 x7 x8 ((1 : Int32)) hp1 hXs I hB hX0) ⟨rfl, rfl, rfl, rfl, rfl, rfl, rfl, rfl, trivial⟩
      · refine w_iconst (v := (0)) C dL_isAsFed_159 (by decide) (q := 160) rfl ?_
        exact WF.less (L' := [some (rf (zG Z) p1), some (.ref (Gb (zG Z))), some (.int p3), some (.int p4), none, some (.int x5), some (.int x6), some (.int x7), some (.int x8), none]) (m_L_isAsFed_j160_ok C hR p1 Xs p3 p4 x5 x6 x7 x8 ((0 : Int32)) hp1 hXs I hB hX0) ⟨rfl, rfl, rfl, rfl, rfl, rfl, rfl, rfl, trivial⟩
def m_L_isAsFed_j118 (p1 : Nat) (Xs : Nat × (Nat → Int32)) (p3 : Int32) (p4 : Int32) (x5 : Int32) (x6 : Int32) (x7 : Int32) (y0 : Int32) (I : Mem) : Option ((Int32 × Int32) ⊕ ((Int32))) :=
  Option.bind (loopF (fun a => m_L_isAsFed_b123 p1 Xs p3 p4 x5 x6 x7 a.1 a.2 I) FU (y0, (0 : Int32))) (fun b10 => some (.inl (b10, x5 + 1)))
set_option maxRecDepth 100000 in
set_option maxHeartbeats 4000000 in
theorem m_L_isAsFed_j118_ok {Z : Zx} {K : ((Int32 × Int32) ⊕ ((Int32))) → Prop} (C : Cx Z cL_isAsFed 10 RL) (hR : RM Z 4 87) (p1 : Nat) (Xs : Nat × (Nat → Int32)) (p3 : Int32) (p4 : Int32) (x5 : Int32) (x6 : Int32) (x7 : Int32) (y0 : Int32) (hp1 : isO p1 11) (hXs : Xs = sG (zG Z)) (I : Mem) (hB : ∀ a, K (.inl a) → WM Z I 18 [some (rf (zG Z) p1), some (.ref (Gb (zG Z))), some (.int p3), some (.int p4), some (.int a.1), some (.int a.2), none, none, none, none] []) (hX0 : ∀ b, K (.inr (b)) → WM Z I 239 [none, none, none, none, some (.int b), none, none, none, none, none] []) : WF Z K (m_L_isAsFed_j118 p1 Xs p3 p4 x5 x6 x7 y0 I) I 118 [some (rf (zG Z) p1), some (.ref (Gb (zG Z))), some (.int p3), some (.int p4), none, some (.int x5), some (.int x6), some (.int x7), none, none] [.int y0] := by
  unfold m_L_isAsFed_j118
  refine w_istore C dL_isAsFed_118 (Nat.le_of_ble_eq_true rfl) (L' := [some (rf (zG Z) p1), some (.ref (Gb (zG Z))), some (.int p3), some (.int p4), some (.int y0), some (.int x5), some (.int x6), some (.int x7), none, none]) rfl (q := 120) rfl ?_
  refine w_iconst (v := (0)) C dL_isAsFed_120 (by decide) (q := 121) rfl ?_
  refine w_istore C dL_isAsFed_121 (Nat.le_of_ble_eq_true rfl) (L' := [some (rf (zG Z) p1), some (.ref (Gb (zG Z))), some (.int p3), some (.int p4), some (.int y0), some (.int x5), some (.int x6), some (.int x7), some (.int 0), none]) rfl (q := 123) rfl ?_
  refine WF.less (L' := [some (rf (zG Z) p1), some (.ref (Gb (zG Z))), some (.int p3), some (.int p4), some (.int y0), some (.int x5), some (.int x6), some (.int x7), some (.int 0), none]) (w_loopF (pc := 123) (a := (y0, (0 : Int32))) (mem := fun a => I) (lo := fun a => [some (rf (zG Z) p1), some (.ref (Gb (zG Z))), some (.int p3), some (.int p4), some (.int a.1), some (.int x5), some (.int x6), some (.int x7), some (.int a.2), none]) (E := fun b10 => WM Z I 233 [some (rf (zG Z) p1), some (.ref (Gb (zG Z))), some (.int p3), some (.int p4), some (.int b10), some (.int x5), none, none, none, none] []) (fun a => m_L_isAsFed_b123_ok C hR p1 Xs p3 p4 x5 x6 x7 a.1 a.2 hp1 hXs I (fun _ h => h) (fun _ h => h)) ?_) ⟨rfl, rfl, rfl, rfl, rfl, rfl, rfl, rfl, rfl, trivial⟩
  intro b10
  refine w_hx ?_
  refine w_iinc (v := x5 + 1) C dL_isAsFed_233 rfl rfl (L' := [some (rf (zG Z) p1), some (.ref (Gb (zG Z))), some (.int p3), some (.int p4), some (.int b10), some (.int (x5 + 1)), none, none, none, none]) rfl (q := 236) rfl ?_
  refine w_goto (tgt := 18) C dL_isAsFed_236 (by decide) ?_
  exact w_jmp (fun h => WM.less (L' := [some (rf (zG Z) p1), some (.ref (Gb (zG Z))), some (.int p3), some (.int p4), some (.int b10), some (.int (x5 + 1)), none, none, none, none]) (hB _ h) ⟨rfl, rfl, rfl, rfl, rfl, rfl, trivial⟩)
def m_L_isAsFed_j117 (p1 : Nat) (Xs : Nat × (Nat → Int32)) (p3 : Int32) (p4 : Int32) (x5 : Int32) (x6 : Int32) (x7 : Int32) (I : Mem) : Option ((Int32 × Int32) ⊕ ((Int32))) :=
  m_L_isAsFed_j118 p1 Xs p3 p4 x5 x6 x7 ((0 : Int32)) I
set_option maxRecDepth 100000 in
set_option maxHeartbeats 4000000 in
theorem m_L_isAsFed_j117_ok {Z : Zx} {K : ((Int32 × Int32) ⊕ ((Int32))) → Prop} (C : Cx Z cL_isAsFed 10 RL) (hR : RM Z 4 87) (p1 : Nat) (Xs : Nat × (Nat → Int32)) (p3 : Int32) (p4 : Int32) (x5 : Int32) (x6 : Int32) (x7 : Int32) (hp1 : isO p1 11) (hXs : Xs = sG (zG Z)) (I : Mem) (hB : ∀ a, K (.inl a) → WM Z I 18 [some (rf (zG Z) p1), some (.ref (Gb (zG Z))), some (.int p3), some (.int p4), some (.int a.1), some (.int a.2), none, none, none, none] []) (hX0 : ∀ b, K (.inr (b)) → WM Z I 239 [none, none, none, none, some (.int b), none, none, none, none, none] []) : WF Z K (m_L_isAsFed_j117 p1 Xs p3 p4 x5 x6 x7 I) I 117 [some (rf (zG Z) p1), some (.ref (Gb (zG Z))), some (.int p3), some (.int p4), none, some (.int x5), some (.int x6), some (.int x7), none, none] [] := by
  unfold m_L_isAsFed_j117
  refine w_iconst (v := (0)) C dL_isAsFed_117 (by decide) (q := 118) rfl ?_
  exact WF.less (L' := [some (rf (zG Z) p1), some (.ref (Gb (zG Z))), some (.int p3), some (.int p4), none, some (.int x5), some (.int x6), some (.int x7), none, none]) (m_L_isAsFed_j118_ok C hR p1 Xs p3 p4 x5 x6 x7 ((0 : Int32)) hp1 hXs I hB hX0) ⟨rfl, rfl, rfl, rfl, rfl, rfl, rfl, trivial⟩
def m_L_isAsFed_j61 (p1 : Nat) (Xs : Nat × (Nat → Int32)) (p3 : Int32) (p4 : Int32) (x5 : Int32) (x6 : Int32) (y0 : Int32) (I : Mem) : Option ((Int32 × Int32) ⊕ ((Int32))) :=
  Option.bind (m_X11_tag p1 x5 I) fun r3 => if r3 = ((65 : Int32)) + (x6 - x6 / 3 * 3) then (Option.bind (m_X11_elements p1 x5 I) fun r11 => if r11 = y0 then (Option.bind (m_X11_item p1 x5 I) fun r12 => if r12 = x6 - x6 / 3 * 3 then (Option.bind (m_X11_pass p1 x5 I) fun r13 => if r13 < 1 then (m_L_isAsFed_j117 p1 Xs p3 p4 x5 x6 y0 I) else (m_L_isAsFed_j118 p1 Xs p3 p4 x5 x6 y0 ((1 : Int32)) I)) else (m_L_isAsFed_j117 p1 Xs p3 p4 x5 x6 y0 I)) else (m_L_isAsFed_j117 p1 Xs p3 p4 x5 x6 y0 I)) else (m_L_isAsFed_j117 p1 Xs p3 p4 x5 x6 y0 I)
set_option maxRecDepth 100000 in
set_option maxHeartbeats 4000000 in
theorem m_L_isAsFed_j61_ok {Z : Zx} {K : ((Int32 × Int32) ⊕ ((Int32))) → Prop} (C : Cx Z cL_isAsFed 10 RL) (hR : RM Z 4 87) (p1 : Nat) (Xs : Nat × (Nat → Int32)) (p3 : Int32) (p4 : Int32) (x5 : Int32) (x6 : Int32) (y0 : Int32) (hp1 : isO p1 11) (hXs : Xs = sG (zG Z)) (I : Mem) (hB : ∀ a, K (.inl a) → WM Z I 18 [some (rf (zG Z) p1), some (.ref (Gb (zG Z))), some (.int p3), some (.int p4), some (.int a.1), some (.int a.2), none, none, none, none] []) (hX0 : ∀ b, K (.inr (b)) → WM Z I 239 [none, none, none, none, some (.int b), none, none, none, none, none] []) : WF Z K (m_L_isAsFed_j61 p1 Xs p3 p4 x5 x6 y0 I) I 61 [some (rf (zG Z) p1), some (.ref (Gb (zG Z))), some (.int p3), some (.int p4), none, some (.int x5), some (.int x6), none, none, none] [.int y0] := by
  unfold m_L_isAsFed_j61
  refine w_istore C dL_isAsFed_61 (Nat.le_of_ble_eq_true rfl) (L' := [some (rf (zG Z) p1), some (.ref (Gb (zG Z))), some (.int p3), some (.int p4), none, some (.int x5), some (.int x6), some (.int y0), none, none]) rfl (q := 63) rfl ?_
  refine w_aload_n (v := p1) C dL_isAsFed_63 rfl (q := 64) rfl ?_
  refine w_iload (v := x5) C dL_isAsFed_64 rfl (q := 66) rfl ?_
  refine w_callV (val := fun r3 => some (.int r3)) (mem := fun r3 => I) (st1 := fun r3 => [.int r3]) (As := [.int x5]) (st := []) (q := 69) C hR (fun x h => c_X11_tag (zl Z) (zG Z) x5 hp1 I h) hp1 mv_X11_tag lk_L_56 rfl (by decide) (fun _ => rfl) (Nat.le_of_ble_eq_true rfl) rfl rfl dL_isAsFed_66 rfl (fun r3 => ?_)
  refine w_bipush (v := (65)) C dL_isAsFed_69 (by decide) (q := 71) rfl ?_
  refine w_iload (v := x6) C dL_isAsFed_71 rfl (q := 73) rfl ?_
  refine w_iconst (v := (3)) C dL_isAsFed_73 (by decide) (q := 74) rfl ?_
  refine w_iremL C (by decide) dL_isAsFed_74 (q := 75) rfl ?_
  refine w_iadd C dL_isAsFed_75 (q := 76) rfl ?_
  refine w_icmp_ne (tgt := 117) (q := 79) C dL_isAsFed_76 (by decide) rfl (fun _ => ?_) (fun _ => ?_)
  · refine w_aload_n (v := p1) C dL_isAsFed_79 rfl (q := 80) rfl ?_
    refine w_iload (v := x5) C dL_isAsFed_80 rfl (q := 82) rfl ?_
    refine w_callV (val := fun r11 => some (.int r11)) (mem := fun r11 => I) (st1 := fun r11 => [.int r11]) (As := [.int x5]) (st := []) (q := 85) C hR (fun x h => c_X11_elements (zl Z) (zG Z) x5 hp1 I h) hp1 mv_X11_elements lk_L_59 rfl (by decide) (fun _ => rfl) (Nat.le_of_ble_eq_true rfl) rfl rfl dL_isAsFed_82 rfl (fun r11 => ?_)
    refine w_iload (v := y0) C dL_isAsFed_85 rfl (q := 87) rfl ?_
    refine w_icmp_ne (tgt := 117) (q := 90) C dL_isAsFed_87 (by decide) rfl (fun _ => ?_) (fun _ => ?_)
    · refine w_aload_n (v := p1) C dL_isAsFed_90 rfl (q := 91) rfl ?_
      refine w_iload (v := x5) C dL_isAsFed_91 rfl (q := 93) rfl ?_
      refine w_callV (val := fun r12 => some (.int r12)) (mem := fun r12 => I) (st1 := fun r12 => [.int r12]) (As := [.int x5]) (st := []) (q := 96) C hR (fun x h => c_X11_item (zl Z) (zG Z) x5 hp1 I h) hp1 mv_X11_item lk_L_63 rfl (by decide) (fun _ => rfl) (Nat.le_of_ble_eq_true rfl) rfl rfl dL_isAsFed_93 rfl (fun r12 => ?_)
      refine w_iload (v := x6) C dL_isAsFed_96 rfl (q := 98) rfl ?_
      refine w_iconst (v := (3)) C dL_isAsFed_98 (by decide) (q := 99) rfl ?_
      refine w_iremL C (by decide) dL_isAsFed_99 (q := 100) rfl ?_
      refine w_icmp_ne (tgt := 117) (q := 103) C dL_isAsFed_100 (by decide) rfl (fun _ => ?_) (fun _ => ?_)
      · refine w_aload_n (v := p1) C dL_isAsFed_103 rfl (q := 104) rfl ?_
        refine w_iload (v := x5) C dL_isAsFed_104 rfl (q := 106) rfl ?_
        refine w_callV (val := fun r13 => some (.int r13)) (mem := fun r13 => I) (st1 := fun r13 => [.int r13]) (As := [.int x5]) (st := []) (q := 109) C hR (fun x h => c_X11_pass (zl Z) (zG Z) x5 hp1 I h) hp1 mv_X11_pass lk_L_66 rfl (by decide) (fun _ => rfl) (Nat.le_of_ble_eq_true rfl) rfl rfl dL_isAsFed_106 rfl (fun r13 => ?_)
        refine w_iconst (v := (1)) C dL_isAsFed_109 (by decide) (q := 110) rfl ?_
        refine w_icmp_lt (tgt := 117) (q := 113) C dL_isAsFed_110 (by decide) rfl (fun _ => ?_) (fun _ => ?_)
        · exact WF.less (L' := [some (rf (zG Z) p1), some (.ref (Gb (zG Z))), some (.int p3), some (.int p4), none, some (.int x5), some (.int x6), some (.int y0), none, none]) (m_L_isAsFed_j117_ok C hR p1 Xs p3 p4 x5 x6 y0 hp1 hXs I hB hX0) ⟨rfl, rfl, rfl, rfl, rfl, rfl, rfl, trivial⟩
        · refine w_iconst (v := (1)) C dL_isAsFed_113 (by decide) (q := 114) rfl ?_
          refine w_goto (tgt := 118) C dL_isAsFed_114 (by decide) ?_
          exact WF.less (L' := [some (rf (zG Z) p1), some (.ref (Gb (zG Z))), some (.int p3), some (.int p4), none, some (.int x5), some (.int x6), some (.int y0), none, none]) (m_L_isAsFed_j118_ok C hR p1 Xs p3 p4 x5 x6 y0 ((1 : Int32)) hp1 hXs I hB hX0) ⟨rfl, rfl, rfl, rfl, rfl, rfl, rfl, trivial⟩
      · exact WF.less (L' := [some (rf (zG Z) p1), some (.ref (Gb (zG Z))), some (.int p3), some (.int p4), none, some (.int x5), some (.int x6), some (.int y0), none, none]) (m_L_isAsFed_j117_ok C hR p1 Xs p3 p4 x5 x6 y0 hp1 hXs I hB hX0) ⟨rfl, rfl, rfl, rfl, rfl, rfl, rfl, trivial⟩
    · exact WF.less (L' := [some (rf (zG Z) p1), some (.ref (Gb (zG Z))), some (.int p3), some (.int p4), none, some (.int x5), some (.int x6), some (.int y0), none, none]) (m_L_isAsFed_j117_ok C hR p1 Xs p3 p4 x5 x6 y0 hp1 hXs I hB hX0) ⟨rfl, rfl, rfl, rfl, rfl, rfl, rfl, trivial⟩
  · exact WF.less (L' := [some (rf (zG Z) p1), some (.ref (Gb (zG Z))), some (.int p3), some (.int p4), none, some (.int x5), some (.int x6), some (.int y0), none, none]) (m_L_isAsFed_j117_ok C hR p1 Xs p3 p4 x5 x6 y0 hp1 hXs I hB hX0) ⟨rfl, rfl, rfl, rfl, rfl, rfl, rfl, trivial⟩
def m_L_isAsFed_b18 (p1 : Nat) (Xs : Nat × (Nat → Int32)) (p3 : Int32) (p4 : Int32) (x4 : Int32) (x5 : Int32) (I : Mem) : Option ((Int32 × Int32) ⊕ ((Int32))) :=
  if p4 ≤ x5 then (some (.inr (x4))) else (if x4 = 0 then (some (.inr (x4))) else (Option.bind (m_L_part Xs (p3 + x5) I) fun r2 => if 5 ≤ (r2 / 4) - (r2 / 4) / 6 * 6 then (m_L_isAsFed_j61 p1 Xs p3 p4 x5 r2 ((5 : Int32)) I) else (m_L_isAsFed_j61 p1 Xs p3 p4 x5 r2 ((r2 / 4) - (r2 / 4) / 6 * 6) I)))
set_option maxRecDepth 100000 in
set_option maxHeartbeats 4000000 in
theorem m_L_isAsFed_b18_ok {Z : Zx} {K : ((Int32 × Int32) ⊕ ((Int32))) → Prop} (C : Cx Z cL_isAsFed 10 RL) (hR : RM Z 4 87) (p1 : Nat) (Xs : Nat × (Nat → Int32)) (p3 : Int32) (p4 : Int32) (x4 : Int32) (x5 : Int32) (hp1 : isO p1 11) (hXs : Xs = sG (zG Z)) (I : Mem) (hB : ∀ a, K (.inl a) → WM Z I 18 [some (rf (zG Z) p1), some (.ref (Gb (zG Z))), some (.int p3), some (.int p4), some (.int a.1), some (.int a.2), none, none, none, none] []) (hX0 : ∀ b, K (.inr (b)) → WM Z I 239 [none, none, none, none, some (.int b), none, none, none, none, none] []) : WF Z K (m_L_isAsFed_b18 p1 Xs p3 p4 x4 x5 I) I 18 [some (rf (zG Z) p1), some (.ref (Gb (zG Z))), some (.int p3), some (.int p4), some (.int x4), some (.int x5), none, none, none, none] [] := by
  unfold m_L_isAsFed_b18
  refine w_iload (v := x5) C dL_isAsFed_18 rfl (q := 20) rfl ?_
  refine w_iload_n (v := p4) C dL_isAsFed_20 rfl (q := 21) rfl ?_
  refine w_icmp_ge (tgt := 239) (q := 24) C dL_isAsFed_21 (by decide) rfl (fun _ => ?_) (fun _ => ?_)
  · exact w_jmp (fun h => WM.less (L' := [none, none, none, none, some (.int x4), none, none, none, none, none]) (hX0 _ h) ⟨rfl, trivial⟩)
  · refine w_iload (v := x4) C dL_isAsFed_24 rfl (q := 26) rfl ?_
    refine w_if_eq (tgt := 239) (q := 29) C dL_isAsFed_26 (by decide) rfl (fun _ => ?_) (fun _ => ?_)
    · exact w_jmp (fun h => WM.less (L' := [none, none, none, none, some (.int x4), none, none, none, none, none]) (hX0 _ h) ⟨rfl, trivial⟩)
    · refine w_aloadB (b := Gb (zG Z)) C dL_isAsFed_29 rfl (q := 30) rfl ?_
      refine w_iload_n (v := p3) C dL_isAsFed_30 rfl (q := 31) rfl ?_
      refine w_iload (v := x5) C dL_isAsFed_31 rfl (q := 33) rfl ?_
      refine w_iadd C dL_isAsFed_33 (q := 34) rfl ?_
      refine w_callS (val := fun r2 => some (.int r2)) (mem := fun r2 => I) (st1 := fun r2 => [.int r2]) (As := [.ref (Gb (zG Z)), .int (p3 + x5)]) (st := []) (q := 37) C hR (fun x h => c_L_part (zl Z) (zG Z) (p3 + x5) hXs I h) mv_L_part lk_L_41 rfl (by decide) (fun _ => rfl) (Nat.le_of_ble_eq_true rfl) rfl rfl dL_isAsFed_34 rfl (fun r2 => ?_)
      refine w_istore C dL_isAsFed_37 (Nat.le_of_ble_eq_true rfl) (L' := [some (rf (zG Z) p1), some (.ref (Gb (zG Z))), some (.int p3), some (.int p4), some (.int x4), some (.int x5), some (.int r2), none, none, none]) rfl (q := 39) rfl ?_
      refine w_iload (v := r2) C dL_isAsFed_39 rfl (q := 41) rfl ?_
      refine w_iconst (v := (4)) C dL_isAsFed_41 (by decide) (q := 42) rfl ?_
      refine w_idivL C (by decide) dL_isAsFed_42 (q := 43) rfl ?_
      refine w_bipush (v := (6)) C dL_isAsFed_43 (by decide) (q := 45) rfl ?_
      refine w_iremL C (by decide) dL_isAsFed_45 (q := 46) rfl ?_
      refine w_iconst (v := (5)) C dL_isAsFed_46 (by decide) (q := 47) rfl ?_
      refine w_icmp_ge (tgt := 60) (q := 50) C dL_isAsFed_47 (by decide) rfl (fun _ => ?_) (fun _ => ?_)
      · refine w_iconst (v := (5)) C dL_isAsFed_60 (by decide) (q := 61) rfl ?_
        exact WF.less (L' := [some (rf (zG Z) p1), some (.ref (Gb (zG Z))), some (.int p3), some (.int p4), none, some (.int x5), some (.int r2), none, none, none]) (m_L_isAsFed_j61_ok C hR p1 Xs p3 p4 x5 r2 ((5 : Int32)) hp1 hXs I hB hX0) ⟨rfl, rfl, rfl, rfl, rfl, rfl, trivial⟩
      · refine w_iload (v := r2) C dL_isAsFed_50 rfl (q := 52) rfl ?_
        refine w_iconst (v := (4)) C dL_isAsFed_52 (by decide) (q := 53) rfl ?_
        refine w_idivL C (by decide) dL_isAsFed_53 (q := 54) rfl ?_
        refine w_bipush (v := (6)) C dL_isAsFed_54 (by decide) (q := 56) rfl ?_
        refine w_iremL C (by decide) dL_isAsFed_56 (q := 57) rfl ?_
        refine w_goto (tgt := 61) C dL_isAsFed_57 (by decide) ?_
        exact WF.less (L' := [some (rf (zG Z) p1), some (.ref (Gb (zG Z))), some (.int p3), some (.int p4), none, some (.int x5), some (.int r2), none, none, none]) (m_L_isAsFed_j61_ok C hR p1 Xs p3 p4 x5 r2 ((r2 / 4) - (r2 / 4) / 6 * 6) hp1 hXs I hB hX0) ⟨rfl, rfl, rfl, rfl, rfl, rfl, trivial⟩
def m_L_isAsFed_j13 (p1 : Nat) (Xs : Nat × (Nat → Int32)) (p3 : Int32) (p4 : Int32) (y0 : Int32) (I : Mem) : Option (Int32) :=
  Option.bind (loopF (fun a => m_L_isAsFed_b18 p1 Xs p3 p4 a.1 a.2 I) FU (y0, (0 : Int32))) (fun b14 => gd (okz b14) (some b14))
set_option maxRecDepth 100000 in
set_option maxHeartbeats 4000000 in
theorem m_L_isAsFed_j13_ok {Z : Zx} {K : Int32 → Prop} (C : Cx Z cL_isAsFed 10 RL) (hR : RM Z 4 87) (p1 : Nat) (Xs : Nat × (Nat → Int32)) (p3 : Int32) (p4 : Int32) (y0 : Int32) (hp1 : isO p1 11) (hXs : Xs = sG (zG Z)) (I : Mem) (hK : ∀ y, K (y) → RetI Z cL_isAsFed .boolean y I) : WF Z K (m_L_isAsFed_j13 p1 Xs p3 p4 y0 I) I 13 [some (rf (zG Z) p1), some (.ref (Gb (zG Z))), some (.int p3), some (.int p4), none, none, none, none, none, none] [.int y0] := by
  unfold m_L_isAsFed_j13
  refine w_istore C dL_isAsFed_13 (Nat.le_of_ble_eq_true rfl) (L' := [some (rf (zG Z) p1), some (.ref (Gb (zG Z))), some (.int p3), some (.int p4), some (.int y0), none, none, none, none, none]) rfl (q := 15) rfl ?_
  refine w_iconst (v := (0)) C dL_isAsFed_15 (by decide) (q := 16) rfl ?_
  refine w_istore C dL_isAsFed_16 (Nat.le_of_ble_eq_true rfl) (L' := [some (rf (zG Z) p1), some (.ref (Gb (zG Z))), some (.int p3), some (.int p4), some (.int y0), some (.int 0), none, none, none, none]) rfl (q := 18) rfl ?_
  refine WF.less (L' := [some (rf (zG Z) p1), some (.ref (Gb (zG Z))), some (.int p3), some (.int p4), some (.int y0), some (.int 0), none, none, none, none]) (w_loopF (pc := 18) (a := (y0, (0 : Int32))) (mem := fun a => I) (lo := fun a => [some (rf (zG Z) p1), some (.ref (Gb (zG Z))), some (.int p3), some (.int p4), some (.int a.1), some (.int a.2), none, none, none, none]) (E := fun b14 => WM Z I 239 [none, none, none, none, some (.int b14), none, none, none, none, none] []) (fun a => m_L_isAsFed_b18_ok C hR p1 Xs p3 p4 a.1 a.2 hp1 hXs I (fun _ h => h) (fun _ h => h)) ?_) ⟨rfl, rfl, rfl, rfl, rfl, rfl, trivial⟩
  intro b14
  refine w_hx ?_
  refine w_iload (v := b14) C dL_isAsFed_239 rfl (q := 241) rfl ?_
  refine w_gd (fun h15 => ?_)
  exact w_iret C (hK _) (okz_n h15).1 dL_isAsFed_241
def m_L_isAsFed (p1 : Nat) (Xs : Nat × (Nat → Int32)) (p3 : Int32) (p4 : Int32) (I : Mem) : Option (Int32) :=
  Option.bind (m_X11_segments p1 I) fun r1 => if r1 = p4 then (m_L_isAsFed_j13 p1 Xs p3 p4 ((1 : Int32)) I) else (m_L_isAsFed_j13 p1 Xs p3 p4 ((0 : Int32)) I)
set_option maxRecDepth 100000 in
set_option maxHeartbeats 4000000 in
theorem m_L_isAsFed_ok {Z : Zx} {K : Int32 → Prop} (C : Cx Z cL_isAsFed 10 RL) (hR : RM Z 4 87) (p1 : Nat) (Xs : Nat × (Nat → Int32)) (p3 : Int32) (p4 : Int32) (hp1 : isO p1 11) (hXs : Xs = sG (zG Z)) (I : Mem) (hK : ∀ y, K (y) → RetI Z cL_isAsFed .boolean y I) : WF Z K (m_L_isAsFed p1 Xs p3 p4 I) I 0 [some (rf (zG Z) p1), some (.ref (Gb (zG Z))), some (.int p3), some (.int p4), none, none, none, none, none, none] [] := by
  unfold m_L_isAsFed
  refine w_aload_n (v := p1) C dL_isAsFed_0 rfl (q := 1) rfl ?_
  refine w_callV (val := fun r1 => some (.int r1)) (mem := fun r1 => I) (st1 := fun r1 => [.int r1]) (As := []) (st := []) (q := 4) C hR (fun x h => c_X11_segments (zl Z) (zG Z)  hp1 I h) hp1 mv_X11_segments lk_L_53 rfl (by decide) (fun _ => rfl) (Nat.le_of_ble_eq_true rfl) rfl rfl dL_isAsFed_1 rfl (fun r1 => ?_)
  refine w_iload_n (v := p4) C dL_isAsFed_4 rfl (q := 5) rfl ?_
  refine w_icmp_ne (tgt := 12) (q := 8) C dL_isAsFed_5 (by decide) rfl (fun _ => ?_) (fun _ => ?_)
  · refine w_iconst (v := (1)) C dL_isAsFed_8 (by decide) (q := 9) rfl ?_
    refine w_goto (tgt := 13) C dL_isAsFed_9 (by decide) ?_
    exact WF.less (L' := [some (rf (zG Z) p1), some (.ref (Gb (zG Z))), some (.int p3), some (.int p4), none, none, none, none, none, none]) (m_L_isAsFed_j13_ok C hR p1 Xs p3 p4 ((1 : Int32)) hp1 hXs I hK) ⟨rfl, rfl, rfl, rfl, trivial⟩
  · refine w_iconst (v := (0)) C dL_isAsFed_12 (by decide) (q := 13) rfl ?_
    exact WF.less (L' := [some (rf (zG Z) p1), some (.ref (Gb (zG Z))), some (.int p3), some (.int p4), none, none, none, none, none, none]) (m_L_isAsFed_j13_ok C hR p1 Xs p3 p4 ((0 : Int32)) hp1 hXs I hK) ⟨rfl, rfl, rfl, rfl, trivial⟩
theorem c_L_isAsFed (l : Launch) (G : Gx) {p1 : Nat} {Xs : Nat × (Nat → Int32)} (p3 : Int32) (p4 : Int32) (hp1 : isO p1 11) (hXs : Xs = sG G) (I : Mem) {x : Int32} (h : m_L_isAsFed p1 Xs p3 p4 I = some x) : Ct l G yL_isAsFed cL_isAsFed 10 (some (.boolean)) 4 87 [rf G p1, .ref (Gb G), .int p3, .int p4] I (some (.int x)) I := Ct.of (by decide +kernel) rfl (Nat.le_of_ble_eq_true rfl) ret_i (fun Z hG hl C hR hret => by
  subst hG
  exact m_L_isAsFed_ok (K := fun y => y = x) C hR p1 Xs p3 p4 hp1 hXs I (fun y hy => by subst hy; exact hret) x h rfl)
