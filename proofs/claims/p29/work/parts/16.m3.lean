def m_X3_placesBehindPass_j133 (k : Nat) (p1 : Nat) (x4 : Int32) (x5 : Int32) (y0 : Int32) (I : Mem) : Option ((Int32 × Int32 × Int32 × Mem) ⊕ ((Int32 × Mem))) :=
  some (.inl (y0, x4, x5 + 1, I))
set_option maxRecDepth 100000 in
set_option maxHeartbeats 4000000 in
theorem m_X3_placesBehindPass_j133_ok {Z : Zx} {K : ((Int32 × Int32 × Int32 × Mem) ⊕ ((Int32 × Mem))) → Prop} (C : Cx Z cX3_placesBehindPass 10 RX3) (hR : RM Z 1 26) (k : Nat) (p1 : Nat) (x4 : Int32) (x5 : Int32) (y0 : Int32) (hk : isO k 3) (hp1 : isO p1 0) (I : Mem) (hB : ∀ a, K (.inl a) → WM Z a.2.2.2 11 [some (rf (zG Z) k), some (rf (zG Z) p1), none, some (.int a.1), some (.int a.2.1), some (.int a.2.2.1), none, none, none, none] []) (hX0 : ∀ b, K (.inr (b)) → WM Z b.2 140 [none, none, none, none, some (.int b.1), none, none, none, none, none] []) : WF Z K (m_X3_placesBehindPass_j133 k p1 x4 x5 y0 I) I 133 [some (rf (zG Z) k), some (rf (zG Z) p1), none, none, some (.int x4), some (.int x5), none, none, none, none] [.int y0] := by
  unfold m_X3_placesBehindPass_j133
  refine w_istore_n C dX3_placesBehindPass_133 (Nat.le_of_ble_eq_true rfl) (L' := [some (rf (zG Z) k), some (rf (zG Z) p1), none, some (.int y0), some (.int x4), some (.int x5), none, none, none, none]) rfl (q := 134) rfl ?_
  refine w_iinc (v := x5 + 1) C dX3_placesBehindPass_134 rfl rfl (L' := [some (rf (zG Z) k), some (rf (zG Z) p1), none, some (.int y0), some (.int x4), some (.int (x5 + 1)), none, none, none, none]) rfl (q := 137) rfl ?_
  refine w_goto (tgt := 11) C dX3_placesBehindPass_137 (by decide) ?_
  exact w_jmp (fun h => WM.less (L' := [some (rf (zG Z) k), some (rf (zG Z) p1), none, some (.int y0), some (.int x4), some (.int (x5 + 1)), none, none, none, none]) (hB _ h) ⟨rfl, rfl, rfl, rfl, rfl, trivial⟩)
def m_X3_placesBehindPass_j121 (k : Nat) (p1 : Nat) (x3 : Int32) (x5 : Int32) (x9 : Int32) (y0 : Int32) (I : Mem) : Option ((Int32 × Int32 × Int32 × Mem) ⊕ ((Int32 × Mem))) :=
  if x9 = 0 then (m_X3_placesBehindPass_j133 k p1 y0 x5 ((0 : Int32)) I) else (m_X3_placesBehindPass_j133 k p1 y0 x5 x3 I)
set_option maxRecDepth 100000 in
set_option maxHeartbeats 4000000 in
theorem m_X3_placesBehindPass_j121_ok {Z : Zx} {K : ((Int32 × Int32 × Int32 × Mem) ⊕ ((Int32 × Mem))) → Prop} (C : Cx Z cX3_placesBehindPass 10 RX3) (hR : RM Z 1 26) (k : Nat) (p1 : Nat) (x3 : Int32) (x5 : Int32) (x9 : Int32) (y0 : Int32) (hk : isO k 3) (hp1 : isO p1 0) (I : Mem) (hB : ∀ a, K (.inl a) → WM Z a.2.2.2 11 [some (rf (zG Z) k), some (rf (zG Z) p1), none, some (.int a.1), some (.int a.2.1), some (.int a.2.2.1), none, none, none, none] []) (hX0 : ∀ b, K (.inr (b)) → WM Z b.2 140 [none, none, none, none, some (.int b.1), none, none, none, none, none] []) : WF Z K (m_X3_placesBehindPass_j121 k p1 x3 x5 x9 y0 I) I 121 [some (rf (zG Z) k), some (rf (zG Z) p1), none, some (.int x3), none, some (.int x5), none, none, none, some (.int x9)] [.int y0] := by
  unfold m_X3_placesBehindPass_j121
  refine w_istore C dX3_placesBehindPass_121 (Nat.le_of_ble_eq_true rfl) (L' := [some (rf (zG Z) k), some (rf (zG Z) p1), none, some (.int x3), some (.int y0), some (.int x5), none, none, none, some (.int x9)]) rfl (q := 123) rfl ?_
  refine w_iload (v := x9) C dX3_placesBehindPass_123 rfl (q := 125) rfl ?_
  refine w_if_eq (tgt := 132) (q := 128) C dX3_placesBehindPass_125 (by decide) rfl (fun _ => ?_) (fun _ => ?_)
  · refine w_iconst (v := (0)) C dX3_placesBehindPass_132 (by decide) (q := 133) rfl ?_
    exact WF.less (L' := [some (rf (zG Z) k), some (rf (zG Z) p1), none, none, some (.int y0), some (.int x5), none, none, none, none]) (m_X3_placesBehindPass_j133_ok C hR k p1 y0 x5 ((0 : Int32)) hk hp1 I hB hX0) ⟨rfl, rfl, rfl, rfl, trivial⟩
  · refine w_iload_n (v := x3) C dX3_placesBehindPass_128 rfl (q := 129) rfl ?_
    refine w_goto (tgt := 133) C dX3_placesBehindPass_129 (by decide) ?_
    exact WF.less (L' := [some (rf (zG Z) k), some (rf (zG Z) p1), none, none, some (.int y0), some (.int x5), none, none, none, none]) (m_X3_placesBehindPass_j133_ok C hR k p1 y0 x5 x3 hk hp1 I hB hX0) ⟨rfl, rfl, rfl, rfl, trivial⟩
def m_X3_placesBehindPass_j104 (k : Nat) (p1 : Nat) (x3 : Int32) (x4 : Int32) (x5 : Int32) (x8 : Int32) (y0 : Int32) (I : Mem) : Option ((Int32 × Int32 × Int32 × Mem) ⊕ ((Int32 × Mem))) :=
  if y0 = 0 then (m_X3_placesBehindPass_j121 k p1 x3 x5 y0 x8 I) else (m_X3_placesBehindPass_j121 k p1 x3 x5 y0 (x8 ||| x4) I)
set_option maxRecDepth 100000 in
set_option maxHeartbeats 4000000 in
theorem m_X3_placesBehindPass_j104_ok {Z : Zx} {K : ((Int32 × Int32 × Int32 × Mem) ⊕ ((Int32 × Mem))) → Prop} (C : Cx Z cX3_placesBehindPass 10 RX3) (hR : RM Z 1 26) (k : Nat) (p1 : Nat) (x3 : Int32) (x4 : Int32) (x5 : Int32) (x8 : Int32) (y0 : Int32) (hk : isO k 3) (hp1 : isO p1 0) (I : Mem) (hB : ∀ a, K (.inl a) → WM Z a.2.2.2 11 [some (rf (zG Z) k), some (rf (zG Z) p1), none, some (.int a.1), some (.int a.2.1), some (.int a.2.2.1), none, none, none, none] []) (hX0 : ∀ b, K (.inr (b)) → WM Z b.2 140 [none, none, none, none, some (.int b.1), none, none, none, none, none] []) : WF Z K (m_X3_placesBehindPass_j104 k p1 x3 x4 x5 x8 y0 I) I 104 [some (rf (zG Z) k), some (rf (zG Z) p1), none, some (.int x3), some (.int x4), some (.int x5), none, none, some (.int x8), none] [.int y0] := by
  unfold m_X3_placesBehindPass_j104
  refine w_istore C dX3_placesBehindPass_104 (Nat.le_of_ble_eq_true rfl) (L' := [some (rf (zG Z) k), some (rf (zG Z) p1), none, some (.int x3), some (.int x4), some (.int x5), none, none, some (.int x8), some (.int y0)]) rfl (q := 106) rfl ?_
  refine w_iload (v := y0) C dX3_placesBehindPass_106 rfl (q := 108) rfl ?_
  refine w_if_eq (tgt := 119) (q := 111) C dX3_placesBehindPass_108 (by decide) rfl (fun _ => ?_) (fun _ => ?_)
  · refine w_iload (v := x8) C dX3_placesBehindPass_119 rfl (q := 121) rfl ?_
    exact WF.less (L' := [some (rf (zG Z) k), some (rf (zG Z) p1), none, some (.int x3), none, some (.int x5), none, none, none, some (.int y0)]) (m_X3_placesBehindPass_j121_ok C hR k p1 x3 x5 y0 x8 hk hp1 I hB hX0) ⟨rfl, rfl, rfl, rfl, rfl, trivial⟩
  · refine w_iload (v := x8) C dX3_placesBehindPass_111 rfl (q := 113) rfl ?_
    refine w_iload (v := x4) C dX3_placesBehindPass_113 rfl (q := 115) rfl ?_
    refine w_ior C dX3_placesBehindPass_115 (q := 116) rfl ?_
    refine w_goto (tgt := 121) C dX3_placesBehindPass_116 (by decide) ?_
    exact WF.less (L' := [some (rf (zG Z) k), some (rf (zG Z) p1), none, some (.int x3), none, some (.int x5), none, none, none, some (.int y0)]) (m_X3_placesBehindPass_j121_ok C hR k p1 x3 x5 y0 (x8 ||| x4) hk hp1 I hB hX0) ⟨rfl, rfl, rfl, rfl, rfl, trivial⟩
def m_X3_placesBehindPass_b11 (k : Nat) (p1 : Nat) (x3 : Int32) (x4 : Int32) (x5 : Int32) (I : Mem) : Option ((Int32 × Int32 × Int32 × Mem) ⊕ ((Int32 × Mem))) :=
  if I p1 2 ≤ x5 then (some (.inr ((x4, I)))) else (Option.bind (m_X8_itemAt (k - 32) x5 I) fun r1 => gd (iO r1 2) (Option.bind (m_X3_at10 (k + 1) x5 I) fun r3 => Option.bind (m_X3_placesBehindItem r3 ((1 : Int32)) (I r1 2) (x3 ||| x4) I) fun r4 => bnd (ms I k 5 ((I k 5) ||| r4)) fun I5 => Option.bind (m_X3_placesBehindItem r3 (if I5 r1 1 < 1 then 1 else I5 r1 1) (I5 r1 2) (x3 ||| x4) I5) fun r6 => if I5 r1 1 = 0 then (m_X3_placesBehindPass_j104 k p1 x3 x4 x5 r6 ((1 : Int32)) I5) else (m_X3_placesBehindPass_j104 k p1 x3 x4 x5 r6 ((0 : Int32)) I5)))
set_option maxRecDepth 100000 in
set_option maxHeartbeats 4000000 in
theorem m_X3_placesBehindPass_b11_ok {Z : Zx} {K : ((Int32 × Int32 × Int32 × Mem) ⊕ ((Int32 × Mem))) → Prop} (C : Cx Z cX3_placesBehindPass 10 RX3) (hR : RM Z 1 26) (k : Nat) (p1 : Nat) (x3 : Int32) (x4 : Int32) (x5 : Int32) (hk : isO k 3) (hp1 : isO p1 0) (I : Mem) (hB : ∀ a, K (.inl a) → WM Z a.2.2.2 11 [some (rf (zG Z) k), some (rf (zG Z) p1), none, some (.int a.1), some (.int a.2.1), some (.int a.2.2.1), none, none, none, none] []) (hX0 : ∀ b, K (.inr (b)) → WM Z b.2 140 [none, none, none, none, some (.int b.1), none, none, none, none, none] []) : WF Z K (m_X3_placesBehindPass_b11 k p1 x3 x4 x5 I) I 11 [some (rf (zG Z) k), some (rf (zG Z) p1), none, some (.int x3), some (.int x4), some (.int x5), none, none, none, none] [] := by
  unfold m_X3_placesBehindPass_b11
  refine w_iload (v := x5) C dX3_placesBehindPass_11 rfl (q := 13) rfl ?_
  refine w_aload_n (v := p1) C dX3_placesBehindPass_13 rfl (q := 14) rfl ?_
  refine gN_X0_2 C hp1 lk_X3_108 dX3_placesBehindPass_14 (q := 17) rfl ?_
  refine w_icmp_ge (tgt := 140) (q := 20) C dX3_placesBehindPass_17 (by decide) rfl (fun _ => ?_) (fun _ => ?_)
  · exact w_jmp (fun h => WM.less (L' := [none, none, none, none, some (.int x4), none, none, none, none, none]) (hX0 _ h) ⟨rfl, trivial⟩)
  · refine w_aload_n (v := k) C dX3_placesBehindPass_20 rfl (q := 21) rfl ?_
    refine g_X3_0 C hk lk_X3_24 dX3_placesBehindPass_21 (q := 24) rfl ?_
    refine w_iload (v := x5) C dX3_placesBehindPass_24 rfl (q := 26) rfl ?_
    refine w_callV (val := fun r1 => some (rf (zG Z) r1)) (mem := fun r1 => I) (st1 := fun r1 => [rf (zG Z) r1]) (As := [.int x5]) (st := []) (q := 29) C hR (fun x h => c_X8_itemAt (zl Z) (zG Z) x5 (st_X3_0 hk).2 I h) (st_X3_0 hk).2 mv_X8_itemAt lk_X3_96 rfl (by decide) (fun _ => rfl) (Nat.le_of_ble_eq_true rfl) rfl rfl dX3_placesBehindPass_26 rfl (fun r1 => ?_)
    refine w_gd (fun h2 => ?_)
    refine w_astore C dX3_placesBehindPass_29 (Nat.le_of_ble_eq_true rfl) (L' := [some (rf (zG Z) k), some (rf (zG Z) p1), none, some (.int x3), some (.int x4), some (.int x5), some (rf (zG Z) r1), none, none, none]) rfl (q := 31) rfl ?_
    refine w_aload_n (v := k) C dX3_placesBehindPass_31 rfl (q := 32) rfl ?_
    refine g_X3_1 C hk lk_X3_9 dX3_placesBehindPass_32 (q := 35) rfl ?_
    refine w_iload (v := x5) C dX3_placesBehindPass_35 rfl (q := 37) rfl ?_
    refine w_callS (val := fun r3 => some (.int r3)) (mem := fun r3 => I) (st1 := fun r3 => [.int r3]) (As := [rf (zG Z) (k + 1), .int x5]) (st := []) (q := 40) C hR (fun x h => c_X3_at10 (zl Z) (zG Z) x5 (st_X3_1 hk).2 I h) mv_X3_at lk_X3_51 rfl (by decide) (fun _ => rfl) (Nat.le_of_ble_eq_true rfl) rfl rfl dX3_placesBehindPass_37 rfl (fun r3 => ?_)
    refine w_istore C dX3_placesBehindPass_40 (Nat.le_of_ble_eq_true rfl) (L' := [some (rf (zG Z) k), some (rf (zG Z) p1), none, some (.int x3), some (.int x4), some (.int x5), some (rf (zG Z) r1), some (.int r3), none, none]) rfl (q := 42) rfl ?_
    refine w_aload_n (v := k) C dX3_placesBehindPass_42 rfl (q := 43) rfl ?_
    refine w_dup C dX3_placesBehindPass_43 rfl (q := 44) rfl ?_
    refine g_X3_5 C hk lk_X3_77 dX3_placesBehindPass_44 (q := 47) rfl ?_
    refine w_iload (v := r3) C dX3_placesBehindPass_47 rfl (q := 49) rfl ?_
    refine w_iconst (v := (1)) C dX3_placesBehindPass_49 (by decide) (q := 50) rfl ?_
    refine w_aload (v := r1) C dX3_placesBehindPass_50 rfl (q := 52) rfl ?_
    refine gN_X2_2 C (iO_of h2) lk_X3_121 dX3_placesBehindPass_52 (q := 55) rfl ?_
    refine w_iload_n (v := x3) C dX3_placesBehindPass_55 rfl (q := 56) rfl ?_
    refine w_iload (v := x4) C dX3_placesBehindPass_56 rfl (q := 58) rfl ?_
    refine w_ior C dX3_placesBehindPass_58 (q := 59) rfl ?_
    refine w_callS (val := fun r4 => some (.int r4)) (mem := fun r4 => I) (st1 := fun r4 => [.int r4, .int (I k 5), rf (zG Z) k]) (As := [.int r3, .int 1, .int (I r1 2), .int (x3 ||| x4)]) (st := [.int (I k 5), rf (zG Z) k]) (q := 62) C hR (fun x h => c_X3_placesBehindItem (zl Z) (zG Z) r3 ((1 : Int32)) (I r1 2) (x3 ||| x4)  I h) mv_X3_placesBehindItem lk_X3_140 rfl (by decide) (fun _ => rfl) (Nat.le_of_ble_eq_true rfl) rfl rfl dX3_placesBehindPass_59 rfl (fun r4 => ?_)
    refine w_ior C dX3_placesBehindPass_62 (q := 63) rfl ?_
    refine p_X3_5 C hk  lk_X3_77 dX3_placesBehindPass_63 (q := 66) rfl (fun I5 => ?_)
    refine w_iload (v := r3) C dX3_placesBehindPass_66 rfl (q := 68) rfl ?_
    refine w_aload (v := r1) C dX3_placesBehindPass_68 rfl (q := 70) rfl ?_
    refine gN_X2_1 C (iO_of h2) lk_X3_114 dX3_placesBehindPass_70 (q := 73) rfl ?_
    refine w_iconst (v := (1)) C dX3_placesBehindPass_73 (by decide) (q := 74) rfl ?_
    refine w_mmax C hR lk_X3_115 mm_max_s mm_i mm_max_c (by decide) (Nat.le_of_ble_eq_true rfl) rfl dX3_placesBehindPass_74 (q := 77) rfl ?_
    refine w_aload (v := r1) C dX3_placesBehindPass_77 rfl (q := 79) rfl ?_
    refine gN_X2_2 C (iO_of h2) lk_X3_121 dX3_placesBehindPass_79 (q := 82) rfl ?_
    refine w_iload_n (v := x3) C dX3_placesBehindPass_82 rfl (q := 83) rfl ?_
    refine w_iload (v := x4) C dX3_placesBehindPass_83 rfl (q := 85) rfl ?_
    refine w_ior C dX3_placesBehindPass_85 (q := 86) rfl ?_
    refine w_callS (val := fun r6 => some (.int r6)) (mem := fun r6 => I5) (st1 := fun r6 => [.int r6]) (As := [.int r3, .int (if I5 r1 1 < 1 then 1 else I5 r1 1), .int (I5 r1 2), .int (x3 ||| x4)]) (st := []) (q := 89) C hR (fun x h => c_X3_placesBehindItem (zl Z) (zG Z) r3 (if I5 r1 1 < 1 then 1 else I5 r1 1) (I5 r1 2) (x3 ||| x4)  I5 h) mv_X3_placesBehindItem lk_X3_140 rfl (by decide) (fun _ => rfl) (Nat.le_of_ble_eq_true rfl) rfl rfl dX3_placesBehindPass_86 rfl (fun r6 => ?_)
    refine w_istore C dX3_placesBehindPass_89 (Nat.le_of_ble_eq_true rfl) (L' := [some (rf (zG Z) k), some (rf (zG Z) p1), none, some (.int x3), some (.int x4), some (.int x5), some (rf (zG Z) r1), some (.int r3), some (.int r6), none]) rfl (q := 91) rfl ?_
    refine w_aload (v := r1) C dX3_placesBehindPass_91 rfl (q := 93) rfl ?_
    refine gN_X2_1 C (iO_of h2) lk_X3_114 dX3_placesBehindPass_93 (q := 96) rfl ?_
    refine w_if_ne (tgt := 103) (q := 99) C dX3_placesBehindPass_96 (by decide) rfl (fun _ => ?_) (fun _ => ?_)
    · refine w_iconst (v := (1)) C dX3_placesBehindPass_99 (by decide) (q := 100) rfl ?_
      refine w_goto (tgt := 104) C dX3_placesBehindPass_100 (by decide) ?_
      exact WF.less (L' := [some (rf (zG Z) k), some (rf (zG Z) p1), none, some (.int x3), some (.int x4), some (.int x5), none, none, some (.int r6), none]) (m_X3_placesBehindPass_j104_ok C hR k p1 x3 x4 x5 r6 ((1 : Int32)) hk hp1 I5 hB hX0) ⟨rfl, rfl, rfl, rfl, rfl, rfl, trivial⟩
    · refine w_iconst (v := (0)) C dX3_placesBehindPass_103 (by decide) (q := 104) rfl ?_
      exact WF.less (L' := [some (rf (zG Z) k), some (rf (zG Z) p1), none, some (.int x3), some (.int x4), some (.int x5), none, none, some (.int r6), none]) (m_X3_placesBehindPass_j104_ok C hR k p1 x3 x4 x5 r6 ((0 : Int32)) hk hp1 I5 hB hX0) ⟨rfl, rfl, rfl, rfl, rfl, rfl, trivial⟩
def m_X3_placesBehindPass (k : Nat) (p1 : Nat) (p2 : Int32) (I : Mem) : Option (Int32 × Mem) :=
  Option.bind (loopF (fun a => m_X3_placesBehindPass_b11 k p1 a.1 a.2.1 a.2.2.1 a.2.2.2) FU (p2, (0 : Int32), I p1 1, I)) (fun b7 => some ((b7.1, b7.2)))
set_option maxRecDepth 100000 in
set_option maxHeartbeats 4000000 in
theorem m_X3_placesBehindPass_ok {Z : Zx} {K : (Int32 × Mem) → Prop} (C : Cx Z cX3_placesBehindPass 10 RX3) (hR : RM Z 1 26) (k : Nat) (p1 : Nat) (p2 : Int32) (hk : isO k 3) (hp1 : isO p1 0) (I : Mem) (hK : ∀ y, K (y) → RetI Z cX3_placesBehindPass .int y.1 y.2) : WF Z K (m_X3_placesBehindPass k p1 p2 I) I 0 [some (rf (zG Z) k), some (rf (zG Z) p1), some (.int p2), none, none, none, none, none, none, none] [] := by
  unfold m_X3_placesBehindPass
  refine w_iload_n (v := p2) C dX3_placesBehindPass_0 rfl (q := 1) rfl ?_
  refine w_istore_n C dX3_placesBehindPass_1 (Nat.le_of_ble_eq_true rfl) (L' := [some (rf (zG Z) k), some (rf (zG Z) p1), some (.int p2), some (.int p2), none, none, none, none, none, none]) rfl (q := 2) rfl ?_
  refine w_iconst (v := (0)) C dX3_placesBehindPass_2 (by decide) (q := 3) rfl ?_
  refine w_istore C dX3_placesBehindPass_3 (Nat.le_of_ble_eq_true rfl) (L' := [some (rf (zG Z) k), some (rf (zG Z) p1), some (.int p2), some (.int p2), some (.int 0), none, none, none, none, none]) rfl (q := 5) rfl ?_
  refine w_aload_n (v := p1) C dX3_placesBehindPass_5 rfl (q := 6) rfl ?_
  refine gN_X0_1 C hp1 lk_X3_111 dX3_placesBehindPass_6 (q := 9) rfl ?_
  refine w_istore C dX3_placesBehindPass_9 (Nat.le_of_ble_eq_true rfl) (L' := [some (rf (zG Z) k), some (rf (zG Z) p1), some (.int p2), some (.int p2), some (.int 0), some (.int (I p1 1)), none, none, none, none]) rfl (q := 11) rfl ?_
  refine WF.less (L' := [some (rf (zG Z) k), some (rf (zG Z) p1), none, some (.int p2), some (.int 0), some (.int (I p1 1)), none, none, none, none]) (w_loopF (pc := 11) (a := (p2, (0 : Int32), I p1 1, I)) (mem := fun a => a.2.2.2) (lo := fun a => [some (rf (zG Z) k), some (rf (zG Z) p1), none, some (.int a.1), some (.int a.2.1), some (.int a.2.2.1), none, none, none, none]) (E := fun b7 => WM Z b7.2 140 [none, none, none, none, some (.int b7.1), none, none, none, none, none] []) (fun a => m_X3_placesBehindPass_b11_ok C hR k p1 a.1 a.2.1 a.2.2.1 hk hp1 a.2.2.2 (fun _ h => h) (fun _ h => h)) ?_) ⟨rfl, rfl, rfl, rfl, rfl, trivial⟩
  intro b7
  refine w_hx ?_
  refine w_iload (v := b7.1) C dX3_placesBehindPass_140 rfl (q := 142) rfl ?_
  exact w_iret C (hK _) rfl dX3_placesBehindPass_142
theorem c_X3_placesBehindPass (l : Launch) (G : Gx) {k : Nat} {p1 : Nat} (p2 : Int32) (hk : isO k 3) (hp1 : isO p1 0) (I : Mem) {x : Int32 × Mem} (h : m_X3_placesBehindPass k p1 p2 I = some x) : Ct l G yX3_placesBehindPass cX3_placesBehindPass 10 (some (.int)) 1 26 [rf G k, rf G p1, .int p2] I (some (.int x.1)) x.2 := Ct.of (by decide +kernel) rfl (Nat.le_of_ble_eq_true rfl) ret_i (fun Z hG hl C hR hret => by
  subst hG
  exact m_X3_placesBehindPass_ok (K := fun y => y = x) C hR k p1 p2 hk hp1 I (fun y hy => by subst hy; exact hret) x h rfl)
def m_X3_placesBehindEntry_j49 (k : Nat) (p1 : Nat) (x3 : Int32) (x4 : Int32) (x5 : Int32) (I : Mem) : Option ((Int32 × Int32 × Int32 × Mem) ⊕ ((Int32 × Mem))) :=
  some (.inl (x3, x4, x5 + 1, I))
set_option maxRecDepth 100000 in
set_option maxHeartbeats 4000000 in
theorem m_X3_placesBehindEntry_j49_ok {Z : Zx} {K : ((Int32 × Int32 × Int32 × Mem) ⊕ ((Int32 × Mem))) → Prop} (C : Cx Z cX3_placesBehindEntry 6 RX3) (hR : RM Z 2 55) (k : Nat) (p1 : Nat) (x3 : Int32) (x4 : Int32) (x5 : Int32) (hk : isO k 3) (hp1 : isO p1 0) (I : Mem) (hB : ∀ a, K (.inl a) → WM Z a.2.2.2 8 [some (rf (zG Z) k), some (rf (zG Z) p1), none, some (.int a.1), some (.int a.2.1), some (.int a.2.2.1)] []) (hX0 : ∀ b, K (.inr (b)) → WM Z b.2 55 [none, none, none, some (.int b.1), none, none] []) : WF Z K (m_X3_placesBehindEntry_j49 k p1 x3 x4 x5 I) I 49 [some (rf (zG Z) k), some (rf (zG Z) p1), none, some (.int x3), some (.int x4), some (.int x5)] [] := by
  unfold m_X3_placesBehindEntry_j49
  refine w_iinc (v := x5 + 1) C dX3_placesBehindEntry_49 rfl rfl (L' := [some (rf (zG Z) k), some (rf (zG Z) p1), none, some (.int x3), some (.int x4), some (.int (x5 + 1))]) rfl (q := 52) rfl ?_
  refine w_goto (tgt := 8) C dX3_placesBehindEntry_52 (by decide) ?_
  exact w_jmp (fun h => WM.less (L' := [some (rf (zG Z) k), some (rf (zG Z) p1), none, some (.int x3), some (.int x4), some (.int (x5 + 1))]) (hB _ h) ⟨rfl, rfl, rfl, rfl, rfl, trivial⟩)
def m_X3_placesBehindEntry_j31 (k : Nat) (p1 : Nat) (x3 : Int32) (x4 : Int32) (x5 : Int32) (I : Mem) : Option ((Int32 × Int32 × Int32 × Mem) ⊕ ((Int32 × Mem))) :=
  if I p1 4 ≤ x5 then (m_X3_placesBehindEntry_j49 k p1 x3 x4 x5 I) else (Option.bind (m_X3_placesBehindPass k p1 x4 I) fun r1 => m_X3_placesBehindEntry_j49 k p1 x3 r1.1 x5 r1.2)
set_option maxRecDepth 100000 in
set_option maxHeartbeats 4000000 in
theorem m_X3_placesBehindEntry_j31_ok {Z : Zx} {K : ((Int32 × Int32 × Int32 × Mem) ⊕ ((Int32 × Mem))) → Prop} (C : Cx Z cX3_placesBehindEntry 6 RX3) (hR : RM Z 2 55) (k : Nat) (p1 : Nat) (x3 : Int32) (x4 : Int32) (x5 : Int32) (hk : isO k 3) (hp1 : isO p1 0) (I : Mem) (hB : ∀ a, K (.inl a) → WM Z a.2.2.2 8 [some (rf (zG Z) k), some (rf (zG Z) p1), none, some (.int a.1), some (.int a.2.1), some (.int a.2.2.1)] []) (hX0 : ∀ b, K (.inr (b)) → WM Z b.2 55 [none, none, none, some (.int b.1), none, none] []) : WF Z K (m_X3_placesBehindEntry_j31 k p1 x3 x4 x5 I) I 31 [some (rf (zG Z) k), some (rf (zG Z) p1), none, some (.int x3), some (.int x4), some (.int x5)] [] := by
  unfold m_X3_placesBehindEntry_j31
  refine w_iload (v := x5) C dX3_placesBehindEntry_31 rfl (q := 33) rfl ?_
  refine w_aload_n (v := p1) C dX3_placesBehindEntry_33 rfl (q := 34) rfl ?_
  refine gN_X0_4 C hp1 lk_X3_63 dX3_placesBehindEntry_34 (q := 37) rfl ?_
  refine w_icmp_ge (tgt := 49) (q := 40) C dX3_placesBehindEntry_37 (by decide) rfl (fun _ => ?_) (fun _ => ?_)
  · exact WF.less (L' := [some (rf (zG Z) k), some (rf (zG Z) p1), none, some (.int x3), some (.int x4), some (.int x5)]) (m_X3_placesBehindEntry_j49_ok C hR k p1 x3 x4 x5 hk hp1 I hB hX0) ⟨rfl, rfl, rfl, rfl, rfl, trivial⟩
  · refine w_aload_n (v := k) C dX3_placesBehindEntry_40 rfl (q := 41) rfl ?_
    refine w_aload_n (v := p1) C dX3_placesBehindEntry_41 rfl (q := 42) rfl ?_
    refine w_iload (v := x4) C dX3_placesBehindEntry_42 rfl (q := 44) rfl ?_
    refine w_callV (val := fun r1 => some (.int r1.1)) (mem := fun r1 => r1.2) (st1 := fun r1 => [.int r1.1]) (As := [rf (zG Z) p1, .int x4]) (st := []) (q := 47) C hR (fun x h => c_X3_placesBehindPass (zl Z) (zG Z) x4 hk hp1 I h) hk mv_X3_placesBehindPass lk_X3_137 rfl (by decide) (fun _ => rfl) (Nat.le_of_ble_eq_true rfl) rfl rfl dX3_placesBehindEntry_44 rfl (fun r1 => ?_)
    refine w_istore C dX3_placesBehindEntry_47 (Nat.le_of_ble_eq_true rfl) (L' := [some (rf (zG Z) k), some (rf (zG Z) p1), none, some (.int x3), some (.int r1.1), some (.int x5)]) rfl (q := 49) rfl ?_
    exact WF.less (L' := [some (rf (zG Z) k), some (rf (zG Z) p1), none, some (.int x3), some (.int r1.1), some (.int x5)]) (m_X3_placesBehindEntry_j49_ok C hR k p1 x3 r1.1 x5 hk hp1 r1.2 hB hX0) ⟨rfl, rfl, rfl, rfl, rfl, trivial⟩
def m_X3_placesBehindEntry_b8 (k : Nat) (p1 : Nat) (x3 : Int32) (x4 : Int32) (x5 : Int32) (I : Mem) : Option ((Int32 × Int32 × Int32 × Mem) ⊕ ((Int32 × Mem))) :=
  if I p1 4 < x5 then (some (.inr ((x3, I)))) else (if x5 < I p1 3 then (m_X3_placesBehindEntry_j31 k p1 x3 x4 x5 I) else (m_X3_placesBehindEntry_j31 k p1 (x3 ||| x4) x4 x5 I))
set_option maxRecDepth 100000 in
set_option maxHeartbeats 4000000 in
theorem m_X3_placesBehindEntry_b8_ok {Z : Zx} {K : ((Int32 × Int32 × Int32 × Mem) ⊕ ((Int32 × Mem))) → Prop} (C : Cx Z cX3_placesBehindEntry 6 RX3) (hR : RM Z 2 55) (k : Nat) (p1 : Nat) (x3 : Int32) (x4 : Int32) (x5 : Int32) (hk : isO k 3) (hp1 : isO p1 0) (I : Mem) (hB : ∀ a, K (.inl a) → WM Z a.2.2.2 8 [some (rf (zG Z) k), some (rf (zG Z) p1), none, some (.int a.1), some (.int a.2.1), some (.int a.2.2.1)] []) (hX0 : ∀ b, K (.inr (b)) → WM Z b.2 55 [none, none, none, some (.int b.1), none, none] []) : WF Z K (m_X3_placesBehindEntry_b8 k p1 x3 x4 x5 I) I 8 [some (rf (zG Z) k), some (rf (zG Z) p1), none, some (.int x3), some (.int x4), some (.int x5)] [] := by
  unfold m_X3_placesBehindEntry_b8
  refine w_iload (v := x5) C dX3_placesBehindEntry_8 rfl (q := 10) rfl ?_
  refine w_aload_n (v := p1) C dX3_placesBehindEntry_10 rfl (q := 11) rfl ?_
  refine gN_X0_4 C hp1 lk_X3_63 dX3_placesBehindEntry_11 (q := 14) rfl ?_
  refine w_icmp_gt (tgt := 55) (q := 17) C dX3_placesBehindEntry_14 (by decide) rfl (fun _ => ?_) (fun _ => ?_)
  · exact w_jmp (fun h => WM.less (L' := [none, none, none, some (.int x3), none, none]) (hX0 _ h) ⟨rfl, trivial⟩)
  · refine w_iload (v := x5) C dX3_placesBehindEntry_17 rfl (q := 19) rfl ?_
    refine w_aload_n (v := p1) C dX3_placesBehindEntry_19 rfl (q := 20) rfl ?_
    refine gN_X0_3 C hp1 lk_X3_105 dX3_placesBehindEntry_20 (q := 23) rfl ?_
    refine w_icmp_lt (tgt := 31) (q := 26) C dX3_placesBehindEntry_23 (by decide) rfl (fun _ => ?_) (fun _ => ?_)
    · exact WF.less (L' := [some (rf (zG Z) k), some (rf (zG Z) p1), none, some (.int x3), some (.int x4), some (.int x5)]) (m_X3_placesBehindEntry_j31_ok C hR k p1 x3 x4 x5 hk hp1 I hB hX0) ⟨rfl, rfl, rfl, rfl, rfl, trivial⟩
    · refine w_iload_n (v := x3) C dX3_placesBehindEntry_26 rfl (q := 27) rfl ?_
      refine w_iload (v := x4) C dX3_placesBehindEntry_27 rfl (q := 29) rfl ?_
      refine w_ior C dX3_placesBehindEntry_29 (q := 30) rfl ?_
      refine w_istore_n C dX3_placesBehindEntry_30 (Nat.le_of_ble_eq_true rfl) (L' := [some (rf (zG Z) k), some (rf (zG Z) p1), none, some (.int (x3 ||| x4)), some (.int x4), some (.int x5)]) rfl (q := 31) rfl ?_
      exact WF.less (L' := [some (rf (zG Z) k), some (rf (zG Z) p1), none, some (.int (x3 ||| x4)), some (.int x4), some (.int x5)]) (m_X3_placesBehindEntry_j31_ok C hR k p1 (x3 ||| x4) x4 x5 hk hp1 I hB hX0) ⟨rfl, rfl, rfl, rfl, rfl, trivial⟩
def m_X3_placesBehindEntry (k : Nat) (p1 : Nat) (p2 : Int32) (I : Mem) : Option (Int32 × Mem) :=
  Option.bind (loopF (fun a => m_X3_placesBehindEntry_b8 k p1 a.1 a.2.1 a.2.2.1 a.2.2.2) FU ((0 : Int32), p2, (0 : Int32), I)) (fun b2 => some ((b2.1, b2.2)))
set_option maxRecDepth 100000 in
set_option maxHeartbeats 4000000 in
theorem m_X3_placesBehindEntry_ok {Z : Zx} {K : (Int32 × Mem) → Prop} (C : Cx Z cX3_placesBehindEntry 6 RX3) (hR : RM Z 2 55) (k : Nat) (p1 : Nat) (p2 : Int32) (hk : isO k 3) (hp1 : isO p1 0) (I : Mem) (hK : ∀ y, K (y) → RetI Z cX3_placesBehindEntry .int y.1 y.2) : WF Z K (m_X3_placesBehindEntry k p1 p2 I) I 0 [some (rf (zG Z) k), some (rf (zG Z) p1), some (.int p2), none, none, none] [] := by
  unfold m_X3_placesBehindEntry
  refine w_iconst (v := (0)) C dX3_placesBehindEntry_0 (by decide) (q := 1) rfl ?_
  refine w_istore_n C dX3_placesBehindEntry_1 (Nat.le_of_ble_eq_true rfl) (L' := [some (rf (zG Z) k), some (rf (zG Z) p1), some (.int p2), some (.int 0), none, none]) rfl (q := 2) rfl ?_
  refine w_iload_n (v := p2) C dX3_placesBehindEntry_2 rfl (q := 3) rfl ?_
  refine w_istore C dX3_placesBehindEntry_3 (Nat.le_of_ble_eq_true rfl) (L' := [some (rf (zG Z) k), some (rf (zG Z) p1), some (.int p2), some (.int 0), some (.int p2), none]) rfl (q := 5) rfl ?_
  refine w_iconst (v := (0)) C dX3_placesBehindEntry_5 (by decide) (q := 6) rfl ?_
  refine w_istore C dX3_placesBehindEntry_6 (Nat.le_of_ble_eq_true rfl) (L' := [some (rf (zG Z) k), some (rf (zG Z) p1), some (.int p2), some (.int 0), some (.int p2), some (.int 0)]) rfl (q := 8) rfl ?_
  refine WF.less (L' := [some (rf (zG Z) k), some (rf (zG Z) p1), none, some (.int 0), some (.int p2), some (.int 0)]) (w_loopF (pc := 8) (a := ((0 : Int32), p2, (0 : Int32), I)) (mem := fun a => a.2.2.2) (lo := fun a => [some (rf (zG Z) k), some (rf (zG Z) p1), none, some (.int a.1), some (.int a.2.1), some (.int a.2.2.1)]) (E := fun b2 => WM Z b2.2 55 [none, none, none, some (.int b2.1), none, none] []) (fun a => m_X3_placesBehindEntry_b8_ok C hR k p1 a.1 a.2.1 a.2.2.1 hk hp1 a.2.2.2 (fun _ h => h) (fun _ h => h)) ?_) ⟨rfl, rfl, rfl, rfl, rfl, trivial⟩
  intro b2
  refine w_hx ?_
  refine w_iload_n (v := b2.1) C dX3_placesBehindEntry_55 rfl (q := 56) rfl ?_
  exact w_iret C (hK _) rfl dX3_placesBehindEntry_56
theorem c_X3_placesBehindEntry (l : Launch) (G : Gx) {k : Nat} {p1 : Nat} (p2 : Int32) (hk : isO k 3) (hp1 : isO p1 0) (I : Mem) {x : Int32 × Mem} (h : m_X3_placesBehindEntry k p1 p2 I = some x) : Ct l G yX3_placesBehindEntry cX3_placesBehindEntry 6 (some (.int)) 2 55 [rf G k, rf G p1, .int p2] I (some (.int x.1)) x.2 := Ct.of (by decide +kernel) rfl (Nat.le_of_ble_eq_true rfl) ret_i (fun Z hG hl C hR hret => by
  subst hG
  exact m_X3_placesBehindEntry_ok (K := fun y => y = x) C hR k p1 p2 hk hp1 I (fun y hy => by subst hy; exact hret) x h rfl)
def m_X3_viableCount_b9 (k : Nat) (p1 : Nat) (x2 : Int32) (x3 : Int32) (I : Mem) : Option ((Int32 × Int32 × Mem) ⊕ ((Mem))) :=
  Option.bind (m_X8_entryCount (k - 32) I) fun r2 => if r2 ≤ x3 then (some (.inr (I))) else (Option.bind (m_X8_entryAt (k - 32) x3 I) fun r3 => gd (iO r3 0) (Option.bind (m_X3_placesBehindEntry k r3 x2 I) fun r5 => some (.inl (r5.1, x3 + 1, r5.2))))
set_option maxRecDepth 100000 in
set_option maxHeartbeats 4000000 in
theorem m_X3_viableCount_b9_ok {Z : Zx} {K : ((Int32 × Int32 × Mem) ⊕ ((Mem))) → Prop} (C : Cx Z cX3_viableCount 4 RX3) (hR : RM Z 3 80) (k : Nat) (p1 : Nat) (x2 : Int32) (x3 : Int32) (hk : isO k 3) (hp1 : isO p1 4) (I : Mem) (hB : ∀ a, K (.inl a) → WM Z a.2.2 9 [some (rf (zG Z) k), some (rf (zG Z) p1), some (.int a.1), some (.int a.2.1)] []) (hX0 : ∀ b, K (.inr (b)) → WM Z b 40 [some (rf (zG Z) k), some (rf (zG Z) p1), none, none] []) : WF Z K (m_X3_viableCount_b9 k p1 x2 x3 I) I 9 [some (rf (zG Z) k), some (rf (zG Z) p1), some (.int x2), some (.int x3)] [] := by
  unfold m_X3_viableCount_b9
  refine w_iload_n (v := x3) C dX3_viableCount_9 rfl (q := 10) rfl ?_
  refine w_aload_n (v := k) C dX3_viableCount_10 rfl (q := 11) rfl ?_
  refine g_X3_0 C hk lk_X3_24 dX3_viableCount_11 (q := 14) rfl ?_
  refine w_callV (val := fun r2 => some (.int r2)) (mem := fun r2 => I) (st1 := fun r2 => [.int r2, .int x3]) (As := []) (st := [.int x3]) (q := 17) C hR (fun x h => c_X8_entryCount (zl Z) (zG Z)  (st_X3_0 hk).2 I h) (st_X3_0 hk).2 mv_X8_entryCount lk_X3_32 rfl (by decide) (fun _ => rfl) (Nat.le_of_ble_eq_true rfl) rfl rfl dX3_viableCount_14 rfl (fun r2 => ?_)
  refine w_icmp_ge (tgt := 40) (q := 20) C dX3_viableCount_17 (by decide) rfl (fun _ => ?_) (fun _ => ?_)
  · exact w_jmp (fun h => WM.less (L' := [some (rf (zG Z) k), some (rf (zG Z) p1), none, none]) (hX0 _ h) ⟨rfl, rfl, trivial⟩)
  · refine w_aload_n (v := k) C dX3_viableCount_20 rfl (q := 21) rfl ?_
    refine w_aload_n (v := k) C dX3_viableCount_21 rfl (q := 22) rfl ?_
    refine g_X3_0 C hk lk_X3_24 dX3_viableCount_22 (q := 25) rfl ?_
    refine w_iload_n (v := x3) C dX3_viableCount_25 rfl (q := 26) rfl ?_
    refine w_callV (val := fun r3 => some (rf (zG Z) r3)) (mem := fun r3 => I) (st1 := fun r3 => [rf (zG Z) r3, rf (zG Z) k]) (As := [.int x3]) (st := [rf (zG Z) k]) (q := 29) C hR (fun x h => c_X8_entryAt (zl Z) (zG Z) x3 (st_X3_0 hk).2 I h) (st_X3_0 hk).2 mv_X8_entryAt lk_X3_47 rfl (by decide) (fun _ => rfl) (Nat.le_of_ble_eq_true rfl) rfl rfl dX3_viableCount_26 rfl (fun r3 => ?_)
    refine w_gd (fun h4 => ?_)
    refine w_iload_n (v := x2) C dX3_viableCount_29 rfl (q := 30) rfl ?_
    refine w_callV (val := fun r5 => some (.int r5.1)) (mem := fun r5 => r5.2) (st1 := fun r5 => [.int r5.1]) (As := [rf (zG Z) r3, .int x2]) (st := []) (q := 33) C hR (fun x h => c_X3_placesBehindEntry (zl Z) (zG Z) x2 hk (iO_of h4) I h) hk mv_X3_placesBehindEntry lk_X3_80 rfl (by decide) (fun _ => rfl) (Nat.le_of_ble_eq_true rfl) rfl rfl dX3_viableCount_30 rfl (fun r5 => ?_)
    refine w_istore_n C dX3_viableCount_33 (Nat.le_of_ble_eq_true rfl) (L' := [some (rf (zG Z) k), some (rf (zG Z) p1), some (.int r5.1), some (.int x3)]) rfl (q := 34) rfl ?_
    refine w_iinc (v := x3 + 1) C dX3_viableCount_34 rfl rfl (L' := [some (rf (zG Z) k), some (rf (zG Z) p1), some (.int r5.1), some (.int (x3 + 1))]) rfl (q := 37) rfl ?_
    refine w_goto (tgt := 9) C dX3_viableCount_37 (by decide) ?_
    exact w_jmp (fun h => WM.less (L' := [some (rf (zG Z) k), some (rf (zG Z) p1), some (.int r5.1), some (.int (x3 + 1))]) (hB _ h) ⟨rfl, rfl, rfl, rfl, trivial⟩)
def m_X3_viableCount_b42 (k : Nat) (p1 : Nat) (x3 : Int32) (I : Mem) : Option ((Int32) ⊕ ((Int32))) :=
  Option.bind (m_X4_bodyCount p1 I) fun r7 => if r7 ≤ x3 then (some (.inr (x3))) else (Option.bind (m_X3_contains (I k 5) (x3 + 1) I) fun r8 => if r8 = 0 then (some (.inr (x3))) else (some (.inl (x3 + 1))))
set_option maxRecDepth 100000 in
set_option maxHeartbeats 4000000 in
theorem m_X3_viableCount_b42_ok {Z : Zx} {K : ((Int32) ⊕ ((Int32))) → Prop} (C : Cx Z cX3_viableCount 4 RX3) (hR : RM Z 3 80) (k : Nat) (p1 : Nat) (x3 : Int32) (hk : isO k 3) (hp1 : isO p1 4) (I : Mem) (hB : ∀ a, K (.inl a) → WM Z I 42 [some (rf (zG Z) k), some (rf (zG Z) p1), none, some (.int a)] []) (hX0 : ∀ b, K (.inr (b)) → WM Z I 69 [none, none, none, some (.int b)] []) : WF Z K (m_X3_viableCount_b42 k p1 x3 I) I 42 [some (rf (zG Z) k), some (rf (zG Z) p1), none, some (.int x3)] [] := by
  unfold m_X3_viableCount_b42
  refine w_iload_n (v := x3) C dX3_viableCount_42 rfl (q := 43) rfl ?_
  refine w_aload_n (v := p1) C dX3_viableCount_43 rfl (q := 44) rfl ?_
  refine w_callV (val := fun r7 => some (.int r7)) (mem := fun r7 => I) (st1 := fun r7 => [.int r7, .int x3]) (As := []) (st := [.int x3]) (q := 47) C hR (fun x h => c_X4_bodyCount (zl Z) (zG Z)  hp1 I h) hp1 mv_X4_bodyCount lk_X3_38 rfl (by decide) (fun _ => rfl) (Nat.le_of_ble_eq_true rfl) rfl rfl dX3_viableCount_44 rfl (fun r7 => ?_)
  refine w_icmp_ge (tgt := 69) (q := 50) C dX3_viableCount_47 (by decide) rfl (fun _ => ?_) (fun _ => ?_)
  · exact w_jmp (fun h => WM.less (L' := [none, none, none, some (.int x3)]) (hX0 _ h) ⟨rfl, trivial⟩)
  · refine w_aload_n (v := k) C dX3_viableCount_50 rfl (q := 51) rfl ?_
    refine g_X3_5 C hk lk_X3_77 dX3_viableCount_51 (q := 54) rfl ?_
    refine w_iload_n (v := x3) C dX3_viableCount_54 rfl (q := 55) rfl ?_
    refine w_iconst (v := (1)) C dX3_viableCount_55 (by decide) (q := 56) rfl ?_
    refine w_iadd C dX3_viableCount_56 (q := 57) rfl ?_
    refine w_callS (val := fun r8 => some (.int r8)) (mem := fun r8 => I) (st1 := fun r8 => [.int r8]) (As := [.int (I k 5), .int (x3 + 1)]) (st := []) (q := 60) C hR (fun x h => c_X3_contains (zl Z) (zG Z) (I k 5) (x3 + 1)  I h) mv_X3_contains lk_X3_59 rfl (by decide) (fun _ => rfl) (Nat.le_of_ble_eq_true rfl) rfl rfl dX3_viableCount_57 rfl (fun r8 => ?_)
    refine w_if_eq (tgt := 69) (q := 63) C dX3_viableCount_60 (by decide) rfl (fun _ => ?_) (fun _ => ?_)
    · exact w_jmp (fun h => WM.less (L' := [none, none, none, some (.int x3)]) (hX0 _ h) ⟨rfl, trivial⟩)
    · refine w_iinc (v := x3 + 1) C dX3_viableCount_63 rfl rfl (L' := [some (rf (zG Z) k), some (rf (zG Z) p1), none, some (.int (x3 + 1))]) rfl (q := 66) rfl ?_
      refine w_goto (tgt := 42) C dX3_viableCount_66 (by decide) ?_
      exact w_jmp (fun h => WM.less (L' := [some (rf (zG Z) k), some (rf (zG Z) p1), none, some (.int (x3 + 1))]) (hB _ h) ⟨rfl, rfl, rfl, trivial⟩)
def m_X3_viableCount (k : Nat) (p1 : Nat) (I : Mem) : Option (Int32 × Mem) :=
  bnd (ms I k 5 1) fun I1 => Option.bind (loopF (fun a => m_X3_viableCount_b9 k p1 a.1 a.2.1 a.2.2) FU ((1 : Int32), (0 : Int32), I1)) (fun b6 => Option.bind (loopF (fun a => m_X3_viableCount_b42 k p1 a b6) FU ((0 : Int32))) (fun b9 => some ((b9, b6))))
set_option maxRecDepth 100000 in
set_option maxHeartbeats 4000000 in
theorem m_X3_viableCount_ok {Z : Zx} {K : (Int32 × Mem) → Prop} (C : Cx Z cX3_viableCount 4 RX3) (hR : RM Z 3 80) (k : Nat) (p1 : Nat) (hk : isO k 3) (hp1 : isO p1 4) (I : Mem) (hK : ∀ y, K (y) → RetI Z cX3_viableCount .int y.1 y.2) : WF Z K (m_X3_viableCount k p1 I) I 0 [some (rf (zG Z) k), some (rf (zG Z) p1), none, none] [] := by
  unfold m_X3_viableCount
  refine w_aload_n (v := k) C dX3_viableCount_0 rfl (q := 1) rfl ?_
  refine w_iconst (v := (1)) C dX3_viableCount_1 (by decide) (q := 2) rfl ?_
  refine p_X3_5 C hk  lk_X3_77 dX3_viableCount_2 (q := 5) rfl (fun I1 => ?_)
  refine w_iconst (v := (1)) C dX3_viableCount_5 (by decide) (q := 6) rfl ?_
  refine w_istore_n C dX3_viableCount_6 (Nat.le_of_ble_eq_true rfl) (L' := [some (rf (zG Z) k), some (rf (zG Z) p1), some (.int 1), none]) rfl (q := 7) rfl ?_
  refine w_iconst (v := (0)) C dX3_viableCount_7 (by decide) (q := 8) rfl ?_
  refine w_istore_n C dX3_viableCount_8 (Nat.le_of_ble_eq_true rfl) (L' := [some (rf (zG Z) k), some (rf (zG Z) p1), some (.int 1), some (.int 0)]) rfl (q := 9) rfl ?_
  refine WF.less (L' := [some (rf (zG Z) k), some (rf (zG Z) p1), some (.int 1), some (.int 0)]) (w_loopF (pc := 9) (a := ((1 : Int32), (0 : Int32), I1)) (mem := fun a => a.2.2) (lo := fun a => [some (rf (zG Z) k), some (rf (zG Z) p1), some (.int a.1), some (.int a.2.1)]) (E := fun b6 => WM Z b6 40 [some (rf (zG Z) k), some (rf (zG Z) p1), none, none] []) (fun a => m_X3_viableCount_b9_ok C hR k p1 a.1 a.2.1 hk hp1 a.2.2 (fun _ h => h) (fun _ h => h)) ?_) ⟨rfl, rfl, rfl, rfl, trivial⟩
  intro b6
  refine w_hx ?_
  refine w_iconst (v := (0)) C dX3_viableCount_40 (by decide) (q := 41) rfl ?_
  refine w_istore_n C dX3_viableCount_41 (Nat.le_of_ble_eq_true rfl) (L' := [some (rf (zG Z) k), some (rf (zG Z) p1), none, some (.int 0)]) rfl (q := 42) rfl ?_
  refine WF.less (L' := [some (rf (zG Z) k), some (rf (zG Z) p1), none, some (.int 0)]) (w_loopF (pc := 42) (a := ((0 : Int32))) (mem := fun a => b6) (lo := fun a => [some (rf (zG Z) k), some (rf (zG Z) p1), none, some (.int a)]) (E := fun b9 => WM Z b6 69 [none, none, none, some (.int b9)] []) (fun a => m_X3_viableCount_b42_ok C hR k p1 a hk hp1 b6 (fun _ h => h) (fun _ h => h)) ?_) ⟨rfl, rfl, rfl, trivial⟩
  intro b9
  refine w_hx ?_
  refine w_iload_n (v := b9) C dX3_viableCount_69 rfl (q := 70) rfl ?_
  exact w_iret C (hK _) rfl dX3_viableCount_70
theorem c_X3_viableCount (l : Launch) (G : Gx) {k : Nat} {p1 : Nat} (hk : isO k 3) (hp1 : isO p1 4) (I : Mem) {x : Int32 × Mem} (h : m_X3_viableCount k p1 I = some x) : Ct l G yX3_viableCount cX3_viableCount 4 (some (.int)) 3 80 [rf G k, rf G p1] I (some (.int x.1)) x.2 := Ct.of (by decide +kernel) rfl (Nat.le_of_ble_eq_true rfl) ret_i (fun Z hG hl C hR hret => by
  subst hG
  exact m_X3_viableCount_ok (K := fun y => y = x) C hR k p1 hk hp1 I (fun y hy => by subst hy; exact hret) x h rfl)
def m_X4_last (k : Nat) (I : Mem) : Option (Nat) :=
  Option.bind (m_X4_at k ((I k 2) - 1) I) fun r1 => gd (iO r1 9) (some r1)
set_option maxRecDepth 100000 in
set_option maxHeartbeats 4000000 in
theorem m_X4_last_ok {Z : Zx} {K : Nat → Prop} (C : Cx Z cX4_last 1 RX4) (hR : RM Z 1 21) (k : Nat) (hk : isO k 4) (I : Mem) (hK : ∀ y, K (y) → RetA Z cX4_last y I) : WF Z K (m_X4_last k I) I 0 [some (rf (zG Z) k)] [] := by
  unfold m_X4_last
  refine w_aload_n (v := k) C dX4_last_0 rfl (q := 1) rfl ?_
  refine w_aload_n (v := k) C dX4_last_1 rfl (q := 2) rfl ?_
  refine g_X4_2 C hk lk_X4_22 dX4_last_2 (q := 5) rfl ?_
  refine w_iconst (v := (1)) C dX4_last_5 (by decide) (q := 6) rfl ?_
  refine w_isub C dX4_last_6 (q := 7) rfl ?_
  refine w_callV (val := fun r1 => some (rf (zG Z) r1)) (mem := fun r1 => I) (st1 := fun r1 => [rf (zG Z) r1]) (As := [.int ((I k 2) - 1)]) (st := []) (q := 10) C hR (fun x h => c_X4_at (zl Z) (zG Z) ((I k 2) - 1) hk I h) hk mv_X4_at lk_X4_26 rfl (by decide) (fun _ => rfl) (Nat.le_of_ble_eq_true rfl) rfl rfl dX4_last_7 rfl (fun r1 => ?_)
  refine w_gd (fun h2 => ?_)
  exact w_aret C (hK _) dX4_last_10
theorem c_X4_last (l : Launch) (G : Gx) {k : Nat} (hk : isO k 4) (I : Mem) {x : Nat} (h : m_X4_last k I = some x) : Ct l G yX4_last cX4_last 1 (some (.object "Segmentry$Segment")) 1 21 [rf G k] I (some (rf G x)) I := Ct.of (by decide +kernel) rfl (Nat.le_of_ble_eq_true rfl) ret_a (fun Z hG hl C hR hret => by
  subst hG
  exact m_X4_last_ok (K := fun y => y = x) C hR k hk I (fun y hy => by subst hy; exact hret _ rfl) x h rfl)
def m_X9_start (k : Nat) (I : Mem) : Option (Int32) :=
  some (I k 2)
set_option maxRecDepth 100000 in
set_option maxHeartbeats 4000000 in
theorem m_X9_start_ok {Z : Zx} {K : Int32 → Prop} (C : Cx Z cX9_start 1 RX9) (hR : RM Z 0 0) (k : Nat) (hk : isO k 9) (I : Mem) (hK : ∀ y, K (y) → RetI Z cX9_start .int y I) : WF Z K (m_X9_start k I) I 0 [some (rf (zG Z) k)] [] := by
  unfold m_X9_start
  refine w_aload_n (v := k) C dX9_start_0 rfl (q := 1) rfl ?_
  refine g_X9_2 C hk lk_X9_23 dX9_start_1 (q := 4) rfl ?_
  exact w_iret C (hK _) rfl dX9_start_4
theorem c_X9_start (l : Launch) (G : Gx) {k : Nat} (hk : isO k 9) (I : Mem) {x : Int32} (h : m_X9_start k I = some x) : Ct l G yX9_start cX9_start 1 (some (.int)) 0 0 [rf G k] I (some (.int x)) I := Ct.of (by decide +kernel) rfl (Nat.le_of_ble_eq_true rfl) ret_i (fun Z hG hl C hR hret => by
  subst hG
  exact m_X9_start_ok (K := fun y => y = x) C hR k hk I (fun y hy => by subst hy; exact hret) x h rfl)
def m_X5_checkBody (k : Nat) (p1 : Nat) (I : Mem) : Option (Mem) :=
  Option.bind (m_X3_canDivide (k + 1) p1 I) fun r1 => if r1.1 = 0 then (Option.bind (m_X3_viableCount (k + 1) p1 r1.2) fun r2 => Option.bind (m_X4_bodyCount p1 r2.2) fun r3 => if r3 ≤ r2.1 then (Option.bind (m_X4_last p1 r2.2) fun r4 => gd (iO r4 9) (Option.bind (m_X9_start r4 r2.2) fun r6 => Option.bind (m_X1_add (k - 3) ((12 : Int32)) r6 r2.2) fun I7 => some I7)) else (Option.bind (m_X4_bodyAt p1 r2.1 r2.2) fun r8 => gd (iO r8 9) (Option.bind (m_X9_start r8 r2.2) fun r10 => Option.bind (m_X1_add (k - 3) ((11 : Int32)) r10 r2.2) fun I11 => some I11))) else (Option.bind (m_X3_divide (k + 1) p1 r1.2) fun I12 => some I12)
set_option maxRecDepth 100000 in
set_option maxHeartbeats 4000000 in
theorem m_X5_checkBody_ok {Z : Zx} {K : Mem → Prop} (C : Cx Z cX5_checkBody 3 RX5) (hR : RM Z 4 103) (k : Nat) (p1 : Nat) (hk : isO k 5) (hp1 : isO p1 4) (I : Mem) (hK : ∀ y, K (y) → RetV Z cX5_checkBody y) : WF Z K (m_X5_checkBody k p1 I) I 0 [some (rf (zG Z) k), some (rf (zG Z) p1), none] [] := by
  unfold m_X5_checkBody
  refine w_aload_n (v := k) C dX5_checkBody_0 rfl (q := 1) rfl ?_
  refine g_X5_1 C hk lk_X5_20 dX5_checkBody_1 (q := 4) rfl ?_
  refine w_aload_n (v := p1) C dX5_checkBody_4 rfl (q := 5) rfl ?_
  refine w_callV (val := fun r1 => some (.int r1.1)) (mem := fun r1 => r1.2) (st1 := fun r1 => [.int r1.1]) (As := [rf (zG Z) p1]) (st := []) (q := 8) C hR (fun x h => c_X3_canDivide (zl Z) (zG Z)  (st_X5_1 hk).2 hp1 I h) (st_X5_1 hk).2 mv_X3_canDivide lk_X5_132 rfl (by decide) (fun _ => rfl) (Nat.le_of_ble_eq_true rfl) rfl rfl dX5_checkBody_5 rfl (fun r1 => ?_)
  refine w_if_eq (tgt := 20) (q := 11) C dX5_checkBody_8 (by decide) rfl (fun _ => ?_) (fun _ => ?_)
  · refine w_aload_n (v := k) C dX5_checkBody_20 rfl (q := 21) rfl ?_
    refine g_X5_1 C hk lk_X5_20 dX5_checkBody_21 (q := 24) rfl ?_
    refine w_aload_n (v := p1) C dX5_checkBody_24 rfl (q := 25) rfl ?_
    refine w_callV (val := fun r2 => some (.int r2.1)) (mem := fun r2 => r2.2) (st1 := fun r2 => [.int r2.1]) (As := [rf (zG Z) p1]) (st := []) (q := 28) C hR (fun x h => c_X3_viableCount (zl Z) (zG Z)  (st_X5_1 hk).2 hp1 r1.2 h) (st_X5_1 hk).2 mv_X3_viableCount lk_X5_139 rfl (by decide) (fun _ => rfl) (Nat.le_of_ble_eq_true rfl) rfl rfl dX5_checkBody_25 rfl (fun r2 => ?_)
    refine w_istore_n C dX5_checkBody_28 (Nat.le_of_ble_eq_true rfl) (L' := [some (rf (zG Z) k), some (rf (zG Z) p1), some (.int r2.1)]) rfl (q := 29) rfl ?_
    refine w_iload_n (v := r2.1) C dX5_checkBody_29 rfl (q := 30) rfl ?_
    refine w_aload_n (v := p1) C dX5_checkBody_30 rfl (q := 31) rfl ?_
    refine w_callV (val := fun r3 => some (.int r3)) (mem := fun r3 => r2.2) (st1 := fun r3 => [.int r3, .int r2.1]) (As := []) (st := [.int r2.1]) (q := 34) C hR (fun x h => c_X4_bodyCount (zl Z) (zG Z)  hp1 r2.2 h) hp1 mv_X4_bodyCount lk_X5_143 rfl (by decide) (fun _ => rfl) (Nat.le_of_ble_eq_true rfl) rfl rfl dX5_checkBody_31 rfl (fun r3 => ?_)
    refine w_icmp_ge (tgt := 57) (q := 37) C dX5_checkBody_34 (by decide) rfl (fun _ => ?_) (fun _ => ?_)
    · refine w_aload_n (v := k) C dX5_checkBody_57 rfl (q := 58) rfl ?_
      refine g_X5_0 C hk lk_X5_9 dX5_checkBody_58 (q := 61) rfl ?_
      refine w_bipush (v := (12)) C dX5_checkBody_61 (by decide) (q := 63) rfl ?_
      refine w_aload_n (v := p1) C dX5_checkBody_63 rfl (q := 64) rfl ?_
      refine w_callV (val := fun r4 => some (rf (zG Z) r4)) (mem := fun r4 => r2.2) (st1 := fun r4 => [rf (zG Z) r4, .int 12, rf (zG Z) (k - 3)]) (As := []) (st := [.int 12, rf (zG Z) (k - 3)]) (q := 67) C hR (fun x h => c_X4_last (zl Z) (zG Z)  hp1 r2.2 h) hp1 mv_X4_last lk_X5_120 rfl (by decide) (fun _ => rfl) (Nat.le_of_ble_eq_true rfl) rfl rfl dX5_checkBody_64 rfl (fun r4 => ?_)
      refine w_gd (fun h5 => ?_)
      refine w_callV (val := fun r6 => some (.int r6)) (mem := fun r6 => r2.2) (st1 := fun r6 => [.int r6, .int 12, rf (zG Z) (k - 3)]) (As := []) (st := [.int 12, rf (zG Z) (k - 3)]) (q := 70) C hR (fun x h => c_X9_start (zl Z) (zG Z)  (iO_of h5) r2.2 h) (iO_of h5) mv_X9_start lk_X5_123 rfl (by decide) (fun _ => rfl) (Nat.le_of_ble_eq_true rfl) rfl rfl dX5_checkBody_67 rfl (fun r6 => ?_)
      refine w_callV (val := fun I7 => none) (mem := fun I7 => I7) (st1 := fun I7 => []) (As := [.int 12, .int r6]) (st := []) (q := 73) C hR (fun x h => c_X1_add (zl Z) (zG Z) ((12 : Int32)) r6 (st_X5_0 hk).2 r2.2 h) (st_X5_0 hk).2 mv_X1_add lk_X5_58 rfl (by decide) (fun _ => rfl) (Nat.le_of_ble_eq_true rfl) rfl rfl dX5_checkBody_70 rfl (fun I7 => ?_)
      exact w_vret C (hK _) dX5_checkBody_73
    · refine w_aload_n (v := k) C dX5_checkBody_37 rfl (q := 38) rfl ?_
      refine g_X5_0 C hk lk_X5_9 dX5_checkBody_38 (q := 41) rfl ?_
      refine w_bipush (v := (11)) C dX5_checkBody_41 (by decide) (q := 43) rfl ?_
      refine w_aload_n (v := p1) C dX5_checkBody_43 rfl (q := 44) rfl ?_
      refine w_iload_n (v := r2.1) C dX5_checkBody_44 rfl (q := 45) rfl ?_
      refine w_callV (val := fun r8 => some (rf (zG Z) r8)) (mem := fun r8 => r2.2) (st1 := fun r8 => [rf (zG Z) r8, .int 11, rf (zG Z) (k - 3)]) (As := [.int r2.1]) (st := [.int 11, rf (zG Z) (k - 3)]) (q := 48) C hR (fun x h => c_X4_bodyAt (zl Z) (zG Z) r2.1 hp1 r2.2 h) hp1 mv_X4_bodyAt lk_X5_146 rfl (by decide) (fun _ => rfl) (Nat.le_of_ble_eq_true rfl) rfl rfl dX5_checkBody_45 rfl (fun r8 => ?_)
      refine w_gd (fun h9 => ?_)
      refine w_callV (val := fun r10 => some (.int r10)) (mem := fun r10 => r2.2) (st1 := fun r10 => [.int r10, .int 11, rf (zG Z) (k - 3)]) (As := []) (st := [.int 11, rf (zG Z) (k - 3)]) (q := 51) C hR (fun x h => c_X9_start (zl Z) (zG Z)  (iO_of h9) r2.2 h) (iO_of h9) mv_X9_start lk_X5_123 rfl (by decide) (fun _ => rfl) (Nat.le_of_ble_eq_true rfl) rfl rfl dX5_checkBody_48 rfl (fun r10 => ?_)
      refine w_callV (val := fun I11 => none) (mem := fun I11 => I11) (st1 := fun I11 => []) (As := [.int 11, .int r10]) (st := []) (q := 54) C hR (fun x h => c_X1_add (zl Z) (zG Z) ((11 : Int32)) r10 (st_X5_0 hk).2 r2.2 h) (st_X5_0 hk).2 mv_X1_add lk_X5_58 rfl (by decide) (fun _ => rfl) (Nat.le_of_ble_eq_true rfl) rfl rfl dX5_checkBody_51 rfl (fun I11 => ?_)
      refine w_goto (tgt := 73) C dX5_checkBody_54 (by decide) ?_
      exact w_vret C (hK _) dX5_checkBody_73
  · refine w_aload_n (v := k) C dX5_checkBody_11 rfl (q := 12) rfl ?_
    refine g_X5_1 C hk lk_X5_20 dX5_checkBody_12 (q := 15) rfl ?_
    refine w_aload_n (v := p1) C dX5_checkBody_15 rfl (q := 16) rfl ?_
    refine w_callV (val := fun I12 => none) (mem := fun I12 => I12) (st1 := fun I12 => []) (As := [rf (zG Z) p1]) (st := []) (q := 19) C hR (fun x h => c_X3_divide (zl Z) (zG Z)  (st_X5_1 hk).2 hp1 r1.2 h) (st_X5_1 hk).2 mv_X3_divide lk_X5_136 rfl (by decide) (fun _ => rfl) (Nat.le_of_ble_eq_true rfl) rfl rfl dX5_checkBody_16 rfl (fun I12 => ?_)
    exact w_vret C (hK _) dX5_checkBody_19
theorem c_X5_checkBody (l : Launch) (G : Gx) {k : Nat} {p1 : Nat} (hk : isO k 5) (hp1 : isO p1 4) (I : Mem) {x : Mem} (h : m_X5_checkBody k p1 I = some x) : Ct l G yX5_checkBody cX5_checkBody 3 none 4 103 [rf G k, rf G p1] I (none) x := Ct.of (by decide +kernel) rfl (Nat.le_of_ble_eq_true rfl) ret_v (fun Z hG hl C hR hret => by
  subst hG
  exact m_X5_checkBody_ok (K := fun y => y = x) C hR k p1 hk hp1 I (fun y hy => by subst hy; exact hret) x h rfl)
def m_X4_count (k : Nat) (I : Mem) : Option (Int32) :=
  some (I k 2)
set_option maxRecDepth 100000 in
set_option maxHeartbeats 4000000 in
theorem m_X4_count_ok {Z : Zx} {K : Int32 → Prop} (C : Cx Z cX4_count 1 RX4) (hR : RM Z 0 0) (k : Nat) (hk : isO k 4) (I : Mem) (hK : ∀ y, K (y) → RetI Z cX4_count .int y I) : WF Z K (m_X4_count k I) I 0 [some (rf (zG Z) k)] [] := by
  unfold m_X4_count
  refine w_aload_n (v := k) C dX4_count_0 rfl (q := 1) rfl ?_
  refine g_X4_2 C hk lk_X4_22 dX4_count_1 (q := 4) rfl ?_
  exact w_iret C (hK _) rfl dX4_count_4
theorem c_X4_count (l : Launch) (G : Gx) {k : Nat} (hk : isO k 4) (I : Mem) {x : Int32} (h : m_X4_count k I = some x) : Ct l G yX4_count cX4_count 1 (some (.int)) 0 0 [rf G k] I (some (.int x)) I := Ct.of (by decide +kernel) rfl (Nat.le_of_ble_eq_true rfl) ret_i (fun Z hG hl C hR hret => by
  subst hG
  exact m_X4_count_ok (K := fun y => y = x) C hR k hk I (fun y hy => by subst hy; exact hret) x h rfl)
def m_X9_isEnvelope_b20 (k : Nat) (p2 : Int32) (x3 : Int32) (I : Mem) : Option ((Int32) ⊕ ((Int32))) :=
  if p2 ≤ x3 then (some (.inr (1))) else (Option.bind (m_X9_numberIn k x3 I) fun r1 => if 0 ≤ r1 then (some (.inl (x3 + 1))) else (some (.inr (0))))
set_option maxRecDepth 100000 in
set_option maxHeartbeats 4000000 in
theorem m_X9_isEnvelope_b20_ok {Z : Zx} {K : ((Int32) ⊕ ((Int32))) → Prop} (C : Cx Z cX9_isEnvelope 4 RX9) (hR : RM Z 3 69) (k : Nat) (p2 : Int32) (x3 : Int32) (hk : isO k 9) (I : Mem) (hB : ∀ a, K (.inl a) → WM Z I 20 [some (rf (zG Z) k), none, some (.int p2), some (.int a)] []) (hK : ∀ y, K (.inr (y)) → RetI Z cX9_isEnvelope .boolean y I) : WF Z K (m_X9_isEnvelope_b20 k p2 x3 I) I 20 [some (rf (zG Z) k), none, some (.int p2), some (.int x3)] [] := by
  unfold m_X9_isEnvelope_b20
  refine w_iload_n (v := x3) C dX9_isEnvelope_20 rfl (q := 21) rfl ?_
  refine w_iload_n (v := p2) C dX9_isEnvelope_21 rfl (q := 22) rfl ?_
  refine w_icmp_ge (tgt := 41) (q := 25) C dX9_isEnvelope_22 (by decide) rfl (fun _ => ?_) (fun _ => ?_)
  · refine w_iconst (v := (1)) C dX9_isEnvelope_41 (by decide) (q := 42) rfl ?_
    exact w_iret C (hK _) (by decide) dX9_isEnvelope_42
  · refine w_aload_n (v := k) C dX9_isEnvelope_25 rfl (q := 26) rfl ?_
    refine w_iload_n (v := x3) C dX9_isEnvelope_26 rfl (q := 27) rfl ?_
    refine w_callV (val := fun r1 => some (.int r1)) (mem := fun r1 => I) (st1 := fun r1 => [.int r1]) (As := [.int x3]) (st := []) (q := 30) C hR (fun x h => c_X9_numberIn (zl Z) (zG Z) x3 hk I h) hk mv_X9_numberIn lk_X9_44 rfl (by decide) (fun _ => rfl) (Nat.le_of_ble_eq_true rfl) rfl rfl dX9_isEnvelope_27 rfl (fun r1 => ?_)
    refine w_if_ge (tgt := 35) (q := 33) C dX9_isEnvelope_30 (by decide) rfl (fun _ => ?_) (fun _ => ?_)
    · refine w_iinc (v := x3 + 1) C dX9_isEnvelope_35 rfl rfl (L' := [some (rf (zG Z) k), none, some (.int p2), some (.int (x3 + 1))]) rfl (q := 38) rfl ?_
      refine w_goto (tgt := 20) C dX9_isEnvelope_38 (by decide) ?_
      exact w_jmp (fun h => WM.less (L' := [some (rf (zG Z) k), none, some (.int p2), some (.int (x3 + 1))]) (hB _ h) ⟨rfl, rfl, rfl, trivial⟩)
    · refine w_iconst (v := (0)) C dX9_isEnvelope_33 (by decide) (q := 34) rfl ?_
      exact w_iret C (hK _) (by decide) dX9_isEnvelope_34
def m_X9_isEnvelope (k : Nat) (p1 : Int32) (p2 : Int32) (I : Mem) : Option (Int32) :=
  if I k 3 = p1 then (if I k 4 = p2 then (Option.bind (loopF (fun a => m_X9_isEnvelope_b20 k p2 a I) FU ((0 : Int32))) (fun b2 => some b2)) else (some 0)) else (some 0)
set_option maxRecDepth 100000 in
set_option maxHeartbeats 4000000 in
theorem m_X9_isEnvelope_ok {Z : Zx} {K : Int32 → Prop} (C : Cx Z cX9_isEnvelope 4 RX9) (hR : RM Z 3 69) (k : Nat) (p1 : Int32) (p2 : Int32) (hk : isO k 9) (I : Mem) (hK : ∀ y, K (y) → RetI Z cX9_isEnvelope .boolean y I) : WF Z K (m_X9_isEnvelope k p1 p2 I) I 0 [some (rf (zG Z) k), some (.int p1), some (.int p2), none] [] := by
  unfold m_X9_isEnvelope
  refine w_aload_n (v := k) C dX9_isEnvelope_0 rfl (q := 1) rfl ?_
  refine g_X9_3 C hk lk_X9_19 dX9_isEnvelope_1 (q := 4) rfl ?_
  refine w_iload_n (v := p1) C dX9_isEnvelope_4 rfl (q := 5) rfl ?_
  refine w_icmp_ne (tgt := 16) (q := 8) C dX9_isEnvelope_5 (by decide) rfl (fun _ => ?_) (fun _ => ?_)
  · refine w_aload_n (v := k) C dX9_isEnvelope_8 rfl (q := 9) rfl ?_
    refine g_X9_4 C hk lk_X9_27 dX9_isEnvelope_9 (q := 12) rfl ?_
    refine w_iload_n (v := p2) C dX9_isEnvelope_12 rfl (q := 13) rfl ?_
    refine w_icmp_eq (tgt := 18) (q := 16) C dX9_isEnvelope_13 (by decide) rfl (fun _ => ?_) (fun _ => ?_)
    · refine w_iconst (v := (0)) C dX9_isEnvelope_18 (by decide) (q := 19) rfl ?_
      refine w_istore_n C dX9_isEnvelope_19 (Nat.le_of_ble_eq_true rfl) (L' := [some (rf (zG Z) k), some (.int p1), some (.int p2), some (.int 0)]) rfl (q := 20) rfl ?_
      refine WF.less (L' := [some (rf (zG Z) k), none, some (.int p2), some (.int 0)]) (w_loopF (pc := 20) (a := ((0 : Int32))) (mem := fun a => I) (lo := fun a => [some (rf (zG Z) k), none, some (.int p2), some (.int a)]) (E := fun b2 => RetI Z cX9_isEnvelope .boolean b2 I) (fun a => m_X9_isEnvelope_b20_ok C hR k p2 a hk I (fun _ h => h) (fun _ h => h)) ?_) ⟨rfl, rfl, rfl, trivial⟩
      intro b2
      exact w_hr (hK _)
    · refine w_iconst (v := (0)) C dX9_isEnvelope_16 (by decide) (q := 17) rfl ?_
      exact w_iret C (hK _) (by decide) dX9_isEnvelope_17
  · refine w_iconst (v := (0)) C dX9_isEnvelope_16 (by decide) (q := 17) rfl ?_
    exact w_iret C (hK _) (by decide) dX9_isEnvelope_17
theorem c_X9_isEnvelope (l : Launch) (G : Gx) {k : Nat} (p1 : Int32) (p2 : Int32) (hk : isO k 9) (I : Mem) {x : Int32} (h : m_X9_isEnvelope k p1 p2 I = some x) : Ct l G yX9_isEnvelope cX9_isEnvelope 4 (some (.boolean)) 3 69 [rf G k, .int p1, .int p2] I (some (.int x)) I := Ct.of (by decide +kernel) rfl (Nat.le_of_ble_eq_true rfl) ret_i (fun Z hG hl C hR hret => by
  subst hG
  exact m_X9_isEnvelope_ok (K := fun y => y = x) C hR k p1 p2 hk I (fun y hy => by subst hy; exact hret) x h rfl)
def m_X5_checkEnvelope_j45 (k : Nat) (p1 : Nat) (I : Mem) : Option (Mem) :=
  Option.bind (m_X4_last p1 I) fun r5 => gd (iO r5 9) (Option.bind (m_X9_start r5 I) fun r7 => Option.bind (m_X1_add (k - 3) ((7 : Int32)) r7 I) fun I8 => some I8)
set_option maxRecDepth 100000 in
set_option maxHeartbeats 4000000 in
theorem m_X5_checkEnvelope_j45_ok {Z : Zx} {K : Mem → Prop} (C : Cx Z cX5_checkEnvelope 2 RX5) (hR : RM Z 4 92) (k : Nat) (p1 : Nat) (hk : isO k 5) (hp1 : isO p1 4) (I : Mem) (hK : ∀ y, K (y) → RetV Z cX5_checkEnvelope y) : WF Z K (m_X5_checkEnvelope_j45 k p1 I) I 45 [some (rf (zG Z) k), some (rf (zG Z) p1)] [] := by
  unfold m_X5_checkEnvelope_j45
  refine w_aload_n (v := k) C dX5_checkEnvelope_45 rfl (q := 46) rfl ?_
  refine g_X5_0 C hk lk_X5_9 dX5_checkEnvelope_46 (q := 49) rfl ?_
  refine w_bipush (v := (7)) C dX5_checkEnvelope_49 (by decide) (q := 51) rfl ?_
  refine w_aload_n (v := p1) C dX5_checkEnvelope_51 rfl (q := 52) rfl ?_
  refine w_callV (val := fun r5 => some (rf (zG Z) r5)) (mem := fun r5 => I) (st1 := fun r5 => [rf (zG Z) r5, .int 7, rf (zG Z) (k - 3)]) (As := []) (st := [.int 7, rf (zG Z) (k - 3)]) (q := 55) C hR (fun x h => c_X4_last (zl Z) (zG Z)  hp1 I h) hp1 mv_X4_last lk_X5_120 rfl (by decide) (fun _ => rfl) (Nat.le_of_ble_eq_true rfl) rfl rfl dX5_checkEnvelope_52 rfl (fun r5 => ?_)
  refine w_gd (fun h6 => ?_)
  refine w_callV (val := fun r7 => some (.int r7)) (mem := fun r7 => I) (st1 := fun r7 => [.int r7, .int 7, rf (zG Z) (k - 3)]) (As := []) (st := [.int 7, rf (zG Z) (k - 3)]) (q := 58) C hR (fun x h => c_X9_start (zl Z) (zG Z)  (iO_of h6) I h) (iO_of h6) mv_X9_start lk_X5_123 rfl (by decide) (fun _ => rfl) (Nat.le_of_ble_eq_true rfl) rfl rfl dX5_checkEnvelope_55 rfl (fun r7 => ?_)
  refine w_callV (val := fun I8 => none) (mem := fun I8 => I8) (st1 := fun I8 => []) (As := [.int 7, .int r7]) (st := []) (q := 61) C hR (fun x h => c_X1_add (zl Z) (zG Z) ((7 : Int32)) r7 (st_X5_0 hk).2 I h) (st_X5_0 hk).2 mv_X1_add lk_X5_58 rfl (by decide) (fun _ => rfl) (Nat.le_of_ble_eq_true rfl) rfl rfl dX5_checkEnvelope_58 rfl (fun I8 => ?_)
  exact w_vret C (hK _) dX5_checkEnvelope_61
def m_X5_checkEnvelope_j24 (k : Nat) (p1 : Nat) (I : Mem) : Option (Mem) :=
  Option.bind (m_X4_count p1 I) fun r4 => if r4 < 2 then (m_X5_checkEnvelope_j45 k p1 I) else (Option.bind (m_X4_last p1 I) fun r9 => gd (iO r9 9) (Option.bind (m_X9_isEnvelope r9 ((84 : Int32)) ((2 : Int32)) I) fun r11 => if r11 = 0 then (m_X5_checkEnvelope_j45 k p1 I) else (some I)))
set_option maxRecDepth 100000 in
set_option maxHeartbeats 4000000 in
theorem m_X5_checkEnvelope_j24_ok {Z : Zx} {K : Mem → Prop} (C : Cx Z cX5_checkEnvelope 2 RX5) (hR : RM Z 4 92) (k : Nat) (p1 : Nat) (hk : isO k 5) (hp1 : isO p1 4) (I : Mem) (hK : ∀ y, K (y) → RetV Z cX5_checkEnvelope y) : WF Z K (m_X5_checkEnvelope_j24 k p1 I) I 24 [some (rf (zG Z) k), some (rf (zG Z) p1)] [] := by
  unfold m_X5_checkEnvelope_j24
  refine w_aload_n (v := p1) C dX5_checkEnvelope_24 rfl (q := 25) rfl ?_
  refine w_callV (val := fun r4 => some (.int r4)) (mem := fun r4 => I) (st1 := fun r4 => [.int r4]) (As := []) (st := []) (q := 28) C hR (fun x h => c_X4_count (zl Z) (zG Z)  hp1 I h) hp1 mv_X4_count lk_X5_119 rfl (by decide) (fun _ => rfl) (Nat.le_of_ble_eq_true rfl) rfl rfl dX5_checkEnvelope_25 rfl (fun r4 => ?_)
  refine w_iconst (v := (2)) C dX5_checkEnvelope_28 (by decide) (q := 29) rfl ?_
  refine w_icmp_lt (tgt := 45) (q := 32) C dX5_checkEnvelope_29 (by decide) rfl (fun _ => ?_) (fun _ => ?_)
  · exact WF.less (L' := [some (rf (zG Z) k), some (rf (zG Z) p1)]) (m_X5_checkEnvelope_j45_ok C hR k p1 hk hp1 I hK) ⟨rfl, rfl, trivial⟩
  · refine w_aload_n (v := p1) C dX5_checkEnvelope_32 rfl (q := 33) rfl ?_
    refine w_callV (val := fun r9 => some (rf (zG Z) r9)) (mem := fun r9 => I) (st1 := fun r9 => [rf (zG Z) r9]) (As := []) (st := []) (q := 36) C hR (fun x h => c_X4_last (zl Z) (zG Z)  hp1 I h) hp1 mv_X4_last lk_X5_120 rfl (by decide) (fun _ => rfl) (Nat.le_of_ble_eq_true rfl) rfl rfl dX5_checkEnvelope_33 rfl (fun r9 => ?_)
    refine w_gd (fun h10 => ?_)
    refine w_bipush (v := (84)) C dX5_checkEnvelope_36 (by decide) (q := 38) rfl ?_
    refine w_iconst (v := (2)) C dX5_checkEnvelope_38 (by decide) (q := 39) rfl ?_
    refine w_callV (val := fun r11 => some (.int r11)) (mem := fun r11 => I) (st1 := fun r11 => [.int r11]) (As := [.int 84, .int 2]) (st := []) (q := 42) C hR (fun x h => c_X9_isEnvelope (zl Z) (zG Z) ((84 : Int32)) ((2 : Int32)) (iO_of h10) I h) (iO_of h10) mv_X9_isEnvelope lk_X5_115 rfl (by decide) (fun _ => rfl) (Nat.le_of_ble_eq_true rfl) rfl rfl dX5_checkEnvelope_39 rfl (fun r11 => ?_)
    refine w_if_ne (tgt := 61) (q := 45) C dX5_checkEnvelope_42 (by decide) rfl (fun _ => ?_) (fun _ => ?_)
    · exact WF.less (L' := [some (rf (zG Z) k), some (rf (zG Z) p1)]) (m_X5_checkEnvelope_j45_ok C hR k p1 hk hp1 I hK) ⟨rfl, rfl, trivial⟩
    · exact w_vret C (hK _) dX5_checkEnvelope_61
def m_X5_checkEnvelope (k : Nat) (p1 : Nat) (I : Mem) : Option (Mem) :=
  Option.bind (m_X4_at p1 ((0 : Int32)) I) fun r1 => gd (iO r1 9) (Option.bind (m_X9_isEnvelope r1 ((72 : Int32)) ((1 : Int32)) I) fun r3 => if r3 = 0 then (Option.bind (m_X1_add (k - 3) ((6 : Int32)) ((0 : Int32)) I) fun I12 => m_X5_checkEnvelope_j24 k p1 I12) else (m_X5_checkEnvelope_j24 k p1 I))
set_option maxRecDepth 100000 in
set_option maxHeartbeats 4000000 in
theorem m_X5_checkEnvelope_ok {Z : Zx} {K : Mem → Prop} (C : Cx Z cX5_checkEnvelope 2 RX5) (hR : RM Z 4 92) (k : Nat) (p1 : Nat) (hk : isO k 5) (hp1 : isO p1 4) (I : Mem) (hK : ∀ y, K (y) → RetV Z cX5_checkEnvelope y) : WF Z K (m_X5_checkEnvelope k p1 I) I 0 [some (rf (zG Z) k), some (rf (zG Z) p1)] [] := by
  unfold m_X5_checkEnvelope
  refine w_aload_n (v := p1) C dX5_checkEnvelope_0 rfl (q := 1) rfl ?_
  refine w_iconst (v := (0)) C dX5_checkEnvelope_1 (by decide) (q := 2) rfl ?_
  refine w_callV (val := fun r1 => some (rf (zG Z) r1)) (mem := fun r1 => I) (st1 := fun r1 => [rf (zG Z) r1]) (As := [.int 0]) (st := []) (q := 5) C hR (fun x h => c_X4_at (zl Z) (zG Z) ((0 : Int32)) hp1 I h) hp1 mv_X4_at lk_X5_112 rfl (by decide) (fun _ => rfl) (Nat.le_of_ble_eq_true rfl) rfl rfl dX5_checkEnvelope_2 rfl (fun r1 => ?_)
  refine w_gd (fun h2 => ?_)
  refine w_bipush (v := (72)) C dX5_checkEnvelope_5 (by decide) (q := 7) rfl ?_
  refine w_iconst (v := (1)) C dX5_checkEnvelope_7 (by decide) (q := 8) rfl ?_
  refine w_callV (val := fun r3 => some (.int r3)) (mem := fun r3 => I) (st1 := fun r3 => [.int r3]) (As := [.int 72, .int 1]) (st := []) (q := 11) C hR (fun x h => c_X9_isEnvelope (zl Z) (zG Z) ((72 : Int32)) ((1 : Int32)) (iO_of h2) I h) (iO_of h2) mv_X9_isEnvelope lk_X5_115 rfl (by decide) (fun _ => rfl) (Nat.le_of_ble_eq_true rfl) rfl rfl dX5_checkEnvelope_8 rfl (fun r3 => ?_)
  refine w_if_ne (tgt := 24) (q := 14) C dX5_checkEnvelope_11 (by decide) rfl (fun _ => ?_) (fun _ => ?_)
  · refine w_aload_n (v := k) C dX5_checkEnvelope_14 rfl (q := 15) rfl ?_
    refine g_X5_0 C hk lk_X5_9 dX5_checkEnvelope_15 (q := 18) rfl ?_
    refine w_bipush (v := (6)) C dX5_checkEnvelope_18 (by decide) (q := 20) rfl ?_
    refine w_iconst (v := (0)) C dX5_checkEnvelope_20 (by decide) (q := 21) rfl ?_
    refine w_callV (val := fun I12 => none) (mem := fun I12 => I12) (st1 := fun I12 => []) (As := [.int 6, .int 0]) (st := []) (q := 24) C hR (fun x h => c_X1_add (zl Z) (zG Z) ((6 : Int32)) ((0 : Int32)) (st_X5_0 hk).2 I h) (st_X5_0 hk).2 mv_X1_add lk_X5_58 rfl (by decide) (fun _ => rfl) (Nat.le_of_ble_eq_true rfl) rfl rfl dX5_checkEnvelope_21 rfl (fun I12 => ?_)
    exact WF.less (L' := [some (rf (zG Z) k), some (rf (zG Z) p1)]) (m_X5_checkEnvelope_j24_ok C hR k p1 hk hp1 I12 hK) ⟨rfl, rfl, trivial⟩
  · exact WF.less (L' := [some (rf (zG Z) k), some (rf (zG Z) p1)]) (m_X5_checkEnvelope_j24_ok C hR k p1 hk hp1 I hK) ⟨rfl, rfl, trivial⟩
theorem c_X5_checkEnvelope (l : Launch) (G : Gx) {k : Nat} {p1 : Nat} (hk : isO k 5) (hp1 : isO p1 4) (I : Mem) {x : Mem} (h : m_X5_checkEnvelope k p1 I = some x) : Ct l G yX5_checkEnvelope cX5_checkEnvelope 2 none 4 92 [rf G k, rf G p1] I (none) x := Ct.of (by decide +kernel) rfl (Nat.le_of_ble_eq_true rfl) ret_v (fun Z hG hl C hR hret => by
  subst hG
  exact m_X5_checkEnvelope_ok (K := fun y => y = x) C hR k p1 hk hp1 I (fun y hy => by subst hy; exact hret) x h rfl)
def m_X5_checkNumbers_j61 (k : Nat) (x4 : Nat) (x5 : Int32) (I : Mem) : Option (Mem) :=
  Option.bind (m_X9_numberIn x4 ((1 : Int32)) I) fun r6 => if r6 = x5 then (some I) else (Option.bind (m_X9_start x4 I) fun r7 => Option.bind (m_X1_add (k - 3) ((9 : Int32)) r7 I) fun I8 => some I8)
set_option maxRecDepth 100000 in
set_option maxHeartbeats 4000000 in
theorem m_X5_checkNumbers_j61_ok {Z : Zx} {K : Mem → Prop} (C : Cx Z cX5_checkNumbers 6 RX5) (hR : RM Z 4 89) (k : Nat) (x4 : Nat) (x5 : Int32) (hk : isO k 5) (hx4 : isO x4 9) (I : Mem) (hK : ∀ y, K (y) → RetV Z cX5_checkNumbers y) : WF Z K (m_X5_checkNumbers_j61 k x4 x5 I) I 61 [some (rf (zG Z) k), none, none, none, some (rf (zG Z) x4), some (.int x5)] [] := by
  unfold m_X5_checkNumbers_j61
  refine w_aload (v := x4) C dX5_checkNumbers_61 rfl (q := 63) rfl ?_
  refine w_iconst (v := (1)) C dX5_checkNumbers_63 (by decide) (q := 64) rfl ?_
  refine w_callV (val := fun r6 => some (.int r6)) (mem := fun r6 => I) (st1 := fun r6 => [.int r6]) (As := [.int 1]) (st := []) (q := 67) C hR (fun x h => c_X9_numberIn (zl Z) (zG Z) ((1 : Int32)) hx4 I h) hx4 mv_X9_numberIn lk_X5_129 rfl (by decide) (fun _ => rfl) (Nat.le_of_ble_eq_true rfl) rfl rfl dX5_checkNumbers_64 rfl (fun r6 => ?_)
  refine w_iload (v := x5) C dX5_checkNumbers_67 rfl (q := 69) rfl ?_
  refine w_icmp_eq (tgt := 86) (q := 72) C dX5_checkNumbers_69 (by decide) rfl (fun _ => ?_) (fun _ => ?_)
  · exact w_vret C (hK _) dX5_checkNumbers_86
  · refine w_aload_n (v := k) C dX5_checkNumbers_72 rfl (q := 73) rfl ?_
    refine g_X5_0 C hk lk_X5_9 dX5_checkNumbers_73 (q := 76) rfl ?_
    refine w_bipush (v := (9)) C dX5_checkNumbers_76 (by decide) (q := 78) rfl ?_
    refine w_aload (v := x4) C dX5_checkNumbers_78 rfl (q := 80) rfl ?_
    refine w_callV (val := fun r7 => some (.int r7)) (mem := fun r7 => I) (st1 := fun r7 => [.int r7, .int 9, rf (zG Z) (k - 3)]) (As := []) (st := [.int 9, rf (zG Z) (k - 3)]) (q := 83) C hR (fun x h => c_X9_start (zl Z) (zG Z)  hx4 I h) hx4 mv_X9_start lk_X5_123 rfl (by decide) (fun _ => rfl) (Nat.le_of_ble_eq_true rfl) rfl rfl dX5_checkNumbers_80 rfl (fun r7 => ?_)
    refine w_callV (val := fun I8 => none) (mem := fun I8 => I8) (st1 := fun I8 => []) (As := [.int 9, .int r7]) (st := []) (q := 86) C hR (fun x h => c_X1_add (zl Z) (zG Z) ((9 : Int32)) r7 (st_X5_0 hk).2 I h) (st_X5_0 hk).2 mv_X1_add lk_X5_58 rfl (by decide) (fun _ => rfl) (Nat.le_of_ble_eq_true rfl) rfl rfl dX5_checkNumbers_83 rfl (fun I8 => ?_)
    exact w_vret C (hK _) dX5_checkNumbers_86
def m_X5_checkNumbers_j34 (k : Nat) (p1 : Nat) (x4 : Nat) (x5 : Int32) (I : Mem) : Option (Mem) :=
  Option.bind (m_X9_numberIn x4 ((0 : Int32)) I) fun r4 => Option.bind (m_X4_count p1 I) fun r5 => if r4 = r5 then (m_X5_checkNumbers_j61 k x4 x5 I) else (Option.bind (m_X9_start x4 I) fun r9 => Option.bind (m_X1_add (k - 3) ((8 : Int32)) r9 I) fun I10 => m_X5_checkNumbers_j61 k x4 x5 I10)
set_option maxRecDepth 100000 in
set_option maxHeartbeats 4000000 in
theorem m_X5_checkNumbers_j34_ok {Z : Zx} {K : Mem → Prop} (C : Cx Z cX5_checkNumbers 6 RX5) (hR : RM Z 4 89) (k : Nat) (p1 : Nat) (x4 : Nat) (x5 : Int32) (hk : isO k 5) (hp1 : isO p1 4) (hx4 : isO x4 9) (I : Mem) (hK : ∀ y, K (y) → RetV Z cX5_checkNumbers y) : WF Z K (m_X5_checkNumbers_j34 k p1 x4 x5 I) I 34 [some (rf (zG Z) k), some (rf (zG Z) p1), none, none, some (rf (zG Z) x4), some (.int x5)] [] := by
  unfold m_X5_checkNumbers_j34
  refine w_aload (v := x4) C dX5_checkNumbers_34 rfl (q := 36) rfl ?_
  refine w_iconst (v := (0)) C dX5_checkNumbers_36 (by decide) (q := 37) rfl ?_
  refine w_callV (val := fun r4 => some (.int r4)) (mem := fun r4 => I) (st1 := fun r4 => [.int r4]) (As := [.int 0]) (st := []) (q := 40) C hR (fun x h => c_X9_numberIn (zl Z) (zG Z) ((0 : Int32)) hx4 I h) hx4 mv_X9_numberIn lk_X5_129 rfl (by decide) (fun _ => rfl) (Nat.le_of_ble_eq_true rfl) rfl rfl dX5_checkNumbers_37 rfl (fun r4 => ?_)
  refine w_aload_n (v := p1) C dX5_checkNumbers_40 rfl (q := 41) rfl ?_
  refine w_callV (val := fun r5 => some (.int r5)) (mem := fun r5 => I) (st1 := fun r5 => [.int r5, .int r4]) (As := []) (st := [.int r4]) (q := 44) C hR (fun x h => c_X4_count (zl Z) (zG Z)  hp1 I h) hp1 mv_X4_count lk_X5_119 rfl (by decide) (fun _ => rfl) (Nat.le_of_ble_eq_true rfl) rfl rfl dX5_checkNumbers_41 rfl (fun r5 => ?_)
  refine w_icmp_eq (tgt := 61) (q := 47) C dX5_checkNumbers_44 (by decide) rfl (fun _ => ?_) (fun _ => ?_)
  · exact WF.less (L' := [some (rf (zG Z) k), none, none, none, some (rf (zG Z) x4), some (.int x5)]) (m_X5_checkNumbers_j61_ok C hR k x4 x5 hk hx4 I hK) ⟨rfl, rfl, rfl, trivial⟩
  · refine w_aload_n (v := k) C dX5_checkNumbers_47 rfl (q := 48) rfl ?_
    refine g_X5_0 C hk lk_X5_9 dX5_checkNumbers_48 (q := 51) rfl ?_
    refine w_bipush (v := (8)) C dX5_checkNumbers_51 (by decide) (q := 53) rfl ?_
    refine w_aload (v := x4) C dX5_checkNumbers_53 rfl (q := 55) rfl ?_
    refine w_callV (val := fun r9 => some (.int r9)) (mem := fun r9 => I) (st1 := fun r9 => [.int r9, .int 8, rf (zG Z) (k - 3)]) (As := []) (st := [.int 8, rf (zG Z) (k - 3)]) (q := 58) C hR (fun x h => c_X9_start (zl Z) (zG Z)  hx4 I h) hx4 mv_X9_start lk_X5_123 rfl (by decide) (fun _ => rfl) (Nat.le_of_ble_eq_true rfl) rfl rfl dX5_checkNumbers_55 rfl (fun r9 => ?_)
    refine w_callV (val := fun I10 => none) (mem := fun I10 => I10) (st1 := fun I10 => []) (As := [.int 8, .int r9]) (st := []) (q := 61) C hR (fun x h => c_X1_add (zl Z) (zG Z) ((8 : Int32)) r9 (st_X5_0 hk).2 I h) (st_X5_0 hk).2 mv_X1_add lk_X5_58 rfl (by decide) (fun _ => rfl) (Nat.le_of_ble_eq_true rfl) rfl rfl dX5_checkNumbers_58 rfl (fun I10 => ?_)
    exact WF.less (L' := [some (rf (zG Z) k), none, none, none, some (rf (zG Z) x4), some (.int x5)]) (m_X5_checkNumbers_j61_ok C hR k x4 x5 hk hx4 I10 hK) ⟨rfl, rfl, rfl, trivial⟩
def m_X5_checkNumbers (k : Nat) (p1 : Nat) (p2 : Int32) (p3 : Int32) (I : Mem) : Option (Mem) :=
  Option.bind (m_X4_last p1 I) fun r1 => gd (iO r1 9) (Option.bind (m_X4_headerControl p1 I) fun r3 => if p2 = 0 then (m_X5_checkNumbers_j34 k p1 r1 r3 I) else (if r3 = p3 + 1 then (m_X5_checkNumbers_j34 k p1 r1 r3 I) else (Option.bind (m_X1_add (k - 3) ((10 : Int32)) ((0 : Int32)) I) fun I11 => m_X5_checkNumbers_j34 k p1 r1 r3 I11)))
set_option maxRecDepth 100000 in
set_option maxHeartbeats 4000000 in
theorem m_X5_checkNumbers_ok {Z : Zx} {K : Mem → Prop} (C : Cx Z cX5_checkNumbers 6 RX5) (hR : RM Z 4 89) (k : Nat) (p1 : Nat) (p2 : Int32) (p3 : Int32) (hk : isO k 5) (hp1 : isO p1 4) (I : Mem) (hK : ∀ y, K (y) → RetV Z cX5_checkNumbers y) : WF Z K (m_X5_checkNumbers k p1 p2 p3 I) I 0 [some (rf (zG Z) k), some (rf (zG Z) p1), some (.int p2), some (.int p3), none, none] [] := by
  unfold m_X5_checkNumbers
  refine w_aload_n (v := p1) C dX5_checkNumbers_0 rfl (q := 1) rfl ?_
  refine w_callV (val := fun r1 => some (rf (zG Z) r1)) (mem := fun r1 => I) (st1 := fun r1 => [rf (zG Z) r1]) (As := []) (st := []) (q := 4) C hR (fun x h => c_X4_last (zl Z) (zG Z)  hp1 I h) hp1 mv_X4_last lk_X5_120 rfl (by decide) (fun _ => rfl) (Nat.le_of_ble_eq_true rfl) rfl rfl dX5_checkNumbers_1 rfl (fun r1 => ?_)
  refine w_gd (fun h2 => ?_)
  refine w_astore C dX5_checkNumbers_4 (Nat.le_of_ble_eq_true rfl) (L' := [some (rf (zG Z) k), some (rf (zG Z) p1), some (.int p2), some (.int p3), some (rf (zG Z) r1), none]) rfl (q := 6) rfl ?_
  refine w_aload_n (v := p1) C dX5_checkNumbers_6 rfl (q := 7) rfl ?_
  refine w_callV (val := fun r3 => some (.int r3)) (mem := fun r3 => I) (st1 := fun r3 => [.int r3]) (As := []) (st := []) (q := 10) C hR (fun x h => c_X4_headerControl (zl Z) (zG Z)  hp1 I h) hp1 mv_X4_headerControl lk_X5_126 rfl (by decide) (fun _ => rfl) (Nat.le_of_ble_eq_true rfl) rfl rfl dX5_checkNumbers_7 rfl (fun r3 => ?_)
  refine w_istore C dX5_checkNumbers_10 (Nat.le_of_ble_eq_true rfl) (L' := [some (rf (zG Z) k), some (rf (zG Z) p1), some (.int p2), some (.int p3), some (rf (zG Z) r1), some (.int r3)]) rfl (q := 12) rfl ?_
  refine w_iload_n (v := p2) C dX5_checkNumbers_12 rfl (q := 13) rfl ?_
  refine w_if_eq (tgt := 34) (q := 16) C dX5_checkNumbers_13 (by decide) rfl (fun _ => ?_) (fun _ => ?_)
  · exact WF.less (L' := [some (rf (zG Z) k), some (rf (zG Z) p1), none, none, some (rf (zG Z) r1), some (.int r3)]) (m_X5_checkNumbers_j34_ok C hR k p1 r1 r3 hk hp1 (iO_of h2) I hK) ⟨rfl, rfl, rfl, rfl, trivial⟩
  · refine w_iload (v := r3) C dX5_checkNumbers_16 rfl (q := 18) rfl ?_
    refine w_iload_n (v := p3) C dX5_checkNumbers_18 rfl (q := 19) rfl ?_
    refine w_iconst (v := (1)) C dX5_checkNumbers_19 (by decide) (q := 20) rfl ?_
    refine w_iadd C dX5_checkNumbers_20 (q := 21) rfl ?_
    refine w_icmp_eq (tgt := 34) (q := 24) C dX5_checkNumbers_21 (by decide) rfl (fun _ => ?_) (fun _ => ?_)
    · exact WF.less (L' := [some (rf (zG Z) k), some (rf (zG Z) p1), none, none, some (rf (zG Z) r1), some (.int r3)]) (m_X5_checkNumbers_j34_ok C hR k p1 r1 r3 hk hp1 (iO_of h2) I hK) ⟨rfl, rfl, rfl, rfl, trivial⟩
    · refine w_aload_n (v := k) C dX5_checkNumbers_24 rfl (q := 25) rfl ?_
      refine g_X5_0 C hk lk_X5_9 dX5_checkNumbers_25 (q := 28) rfl ?_
      refine w_bipush (v := (10)) C dX5_checkNumbers_28 (by decide) (q := 30) rfl ?_
      refine w_iconst (v := (0)) C dX5_checkNumbers_30 (by decide) (q := 31) rfl ?_
      refine w_callV (val := fun I11 => none) (mem := fun I11 => I11) (st1 := fun I11 => []) (As := [.int 10, .int 0]) (st := []) (q := 34) C hR (fun x h => c_X1_add (zl Z) (zG Z) ((10 : Int32)) ((0 : Int32)) (st_X5_0 hk).2 I h) (st_X5_0 hk).2 mv_X1_add lk_X5_58 rfl (by decide) (fun _ => rfl) (Nat.le_of_ble_eq_true rfl) rfl rfl dX5_checkNumbers_31 rfl (fun I11 => ?_)
      exact WF.less (L' := [some (rf (zG Z) k), some (rf (zG Z) p1), none, none, some (rf (zG Z) r1), some (.int r3)]) (m_X5_checkNumbers_j34_ok C hR k p1 r1 r3 hk hp1 (iO_of h2) I11 hK) ⟨rfl, rfl, rfl, rfl, trivial⟩
theorem c_X5_checkNumbers (l : Launch) (G : Gx) {k : Nat} {p1 : Nat} (p2 : Int32) (p3 : Int32) (hk : isO k 5) (hp1 : isO p1 4) (I : Mem) {x : Mem} (h : m_X5_checkNumbers k p1 p2 p3 I = some x) : Ct l G yX5_checkNumbers cX5_checkNumbers 6 none 4 89 [rf G k, rf G p1, .int p2, .int p3] I (none) x := Ct.of (by decide +kernel) rfl (Nat.le_of_ble_eq_true rfl) ret_v (fun Z hG hl C hR hret => by
  subst hG
  exact m_X5_checkNumbers_ok (K := fun y => y = x) C hR k p1 p2 p3 hk hp1 I (fun y hy => by subst hy; exact hret) x h rfl)
def m_X4_append (k : Nat) (I : Mem) : Option (Nat × Mem) :=
  if I k 2 < 20 then (bnd (ms I k 2 ((I k 2) + 1)) fun I1 => gd (inb ((I1 k 2) - 1) 20) (some (((k + 1) + (4 + 3 * ((I1 k 2) - 1).toNatClampNeg), I1)))) else (some ((k + 2, I)))
set_option maxRecDepth 100000 in
set_option maxHeartbeats 4000000 in
theorem m_X4_append_ok {Z : Zx} {K : (Nat × Mem) → Prop} (C : Cx Z cX4_append 1 RX4) (hR : RM Z 0 0) (k : Nat) (hk : isO k 4) (I : Mem) (hK : ∀ y, K (y) → RetA Z cX4_append y.1 y.2) : WF Z K (m_X4_append k I) I 0 [some (rf (zG Z) k)] [] := by
  unfold m_X4_append
  refine w_aload_n (v := k) C dX4_append_0 rfl (q := 1) rfl ?_
  refine g_X4_2 C hk lk_X4_22 dX4_append_1 (q := 4) rfl ?_
  refine w_bipush (v := (20)) C dX4_append_4 (by decide) (q := 6) rfl ?_
  refine w_icmp_lt (tgt := 14) (q := 9) C dX4_append_6 (by decide) rfl (fun _ => ?_) (fun _ => ?_)
  · refine w_aload_n (v := k) C dX4_append_14 rfl (q := 15) rfl ?_
    refine w_dup C dX4_append_15 rfl (q := 16) rfl ?_
    refine g_X4_2 C hk lk_X4_22 dX4_append_16 (q := 19) rfl ?_
    refine w_iconst (v := (1)) C dX4_append_19 (by decide) (q := 20) rfl ?_
    refine w_iadd C dX4_append_20 (q := 21) rfl ?_
    refine p_X4_2 C hk  lk_X4_22 dX4_append_21 (q := 24) rfl (fun I1 => ?_)
    refine w_aload_n (v := k) C dX4_append_24 rfl (q := 25) rfl ?_
    refine g_X4_0 C hk lk_X4_11 dX4_append_25 (q := 28) rfl ?_
    refine w_aload_n (v := k) C dX4_append_28 rfl (q := 29) rfl ?_
    refine g_X4_2 C hk lk_X4_22 dX4_append_29 (q := 32) rfl ?_
    refine w_iconst (v := (1)) C dX4_append_32 (by decide) (q := 33) rfl ?_
    refine w_isub C dX4_append_33 (q := 34) rfl ?_
    refine w_aald (t := 3) C (st_X4_0 hk).2 rfl (el_Segment (st_X4_0 hk).2) dX4_append_34 (q := 35) rfl (fun _ h2 => ?_)
    exact w_aret C (hK _) dX4_append_35
  · refine w_aload_n (v := k) C dX4_append_9 rfl (q := 10) rfl ?_
    refine g_X4_1 C hk lk_X4_18 dX4_append_10 (q := 13) rfl ?_
    exact w_aret C (hK _) dX4_append_13
theorem c_X4_append (l : Launch) (G : Gx) {k : Nat} (hk : isO k 4) (I : Mem) {x : Nat × Mem} (h : m_X4_append k I = some x) : Ct l G yX4_append cX4_append 1 (some (.object "Segmentry$Segment")) 0 0 [rf G k] I (some (rf G x.1)) x.2 := Ct.of (by decide +kernel) rfl (Nat.le_of_ble_eq_true rfl) ret_a (fun Z hG hl C hR hret => by
  subst hG
  exact m_X4_append_ok (K := fun y => y = x) C hR k hk I (fun y hy => by subst hy; exact hret _ rfl) x h rfl)
def m_X4_wipe (k : Nat) (I : Mem) : Option (Mem) :=
  bnd (ms I k 2 0) fun I1 => some I1
set_option maxRecDepth 100000 in
set_option maxHeartbeats 4000000 in
theorem m_X4_wipe_ok {Z : Zx} {K : Mem → Prop} (C : Cx Z cX4_wipe 1 RX4) (hR : RM Z 0 0) (k : Nat) (hk : isO k 4) (I : Mem) (hK : ∀ y, K (y) → RetV Z cX4_wipe y) : WF Z K (m_X4_wipe k I) I 0 [some (rf (zG Z) k)] [] := by
  unfold m_X4_wipe
  refine w_aload_n (v := k) C dX4_wipe_0 rfl (q := 1) rfl ?_
  refine w_iconst (v := (0)) C dX4_wipe_1 (by decide) (q := 2) rfl ?_
  refine p_X4_2 C hk  lk_X4_22 dX4_wipe_2 (q := 5) rfl (fun I1 => ?_)
  exact w_vret C (hK _) dX4_wipe_5
theorem c_X4_wipe (l : Launch) (G : Gx) {k : Nat} (hk : isO k 4) (I : Mem) {x : Mem} (h : m_X4_wipe k I = some x) : Ct l G yX4_wipe cX4_wipe 1 none 0 0 [rf G k] I (none) x := Ct.of (by decide +kernel) rfl (Nat.le_of_ble_eq_true rfl) ret_v (fun Z hG hl C hR hret => by
  subst hG
  exact m_X4_wipe_ok (K := fun y => y = x) C hR k hk I (fun y hy => by subst hy; exact hret) x h rfl)
def m_X10_at (k : Nat) (p1 : Int32) (I : Mem) : Option (Int32) :=
  if p1 < 0 then (some 32) else (if I k 1 ≤ p1 then (some 32) else (gd (inb p1 300) (gd (okc (I (k + 1) p1.toNatClampNeg)) (some (I (k + 1) p1.toNatClampNeg)))))
set_option maxRecDepth 100000 in
set_option maxHeartbeats 4000000 in
theorem m_X10_at_ok {Z : Zx} {K : Int32 → Prop} (C : Cx Z cX10_at 2 RX10) (hR : RM Z 0 0) (k : Nat) (p1 : Int32) (hk : isO k 10) (I : Mem) (hK : ∀ y, K (y) → RetI Z cX10_at .char y I) : WF Z K (m_X10_at k p1 I) I 0 [some (rf (zG Z) k), some (.int p1)] [] := by
  unfold m_X10_at
  refine w_iload_n (v := p1) C dX10_at_0 rfl (q := 1) rfl ?_
  refine w_if_lt (tgt := 21) (q := 4) C dX10_at_1 (by decide) rfl (fun _ => ?_) (fun _ => ?_)
  · refine w_bipush (v := (32)) C dX10_at_21 (by decide) (q := 23) rfl ?_
    exact w_iret C (hK _) (by decide) dX10_at_23
  · refine w_iload_n (v := p1) C dX10_at_4 rfl (q := 5) rfl ?_
    refine w_aload_n (v := k) C dX10_at_5 rfl (q := 6) rfl ?_
    refine g_X10_1 C hk lk_X10_15 dX10_at_6 (q := 9) rfl ?_
    refine w_icmp_ge (tgt := 21) (q := 12) C dX10_at_9 (by decide) rfl (fun _ => ?_) (fun _ => ?_)
    · refine w_bipush (v := (32)) C dX10_at_21 (by decide) (q := 23) rfl ?_
      exact w_iret C (hK _) (by decide) dX10_at_23
    · refine w_aload_n (v := k) C dX10_at_12 rfl (q := 13) rfl ?_
      refine g_X10_0 C hk lk_X10_9 dX10_at_13 (q := 16) rfl ?_
      refine w_iload_n (v := p1) C dX10_at_16 rfl (q := 17) rfl ?_
      refine w_cald C (st_X10_0 hk).2 dX10_at_17 (q := 18) rfl (fun _ => ?_)
      refine w_goto (tgt := 23) C dX10_at_18 (by decide) ?_
      refine w_gd (fun h1 => ?_)
      exact w_iret C (hK _) (okc_n h1).1 dX10_at_23
theorem c_X10_at (l : Launch) (G : Gx) {k : Nat} (p1 : Int32) (hk : isO k 10) (I : Mem) {x : Int32} (h : m_X10_at k p1 I = some x) : Ct l G yX10_at cX10_at 2 (some (.char)) 0 0 [rf G k, .int p1] I (some (.int x)) I := Ct.of (by decide +kernel) rfl (Nat.le_of_ble_eq_true rfl) ret_i (fun Z hG hl C hR hret => by
  subst hG
  exact m_X10_at_ok (K := fun y => y = x) C hR k p1 hk I (fun y hy => by subst hy; exact hret) x h rfl)
def m_X5_segmentEnd_j36 (p1 : Nat) (y0 : Int32) (y1 : Int32) (I : Mem) : Option ((Int32) ⊕ ((Int32))) :=
  some (.inl (y0 + y1))
set_option maxRecDepth 100000 in
set_option maxHeartbeats 4000000 in
theorem m_X5_segmentEnd_j36_ok {Z : Zx} {K : ((Int32) ⊕ ((Int32))) → Prop} (C : Cx Z cX5_segmentEnd 3 RX5) (hR : RM Z 1 21) (p1 : Nat) (y0 : Int32) (y1 : Int32) (hp1 : isO p1 10) (I : Mem) (hB : ∀ a, K (.inl a) → WM Z I 2 [some (rf (zG Z) p1), none, some (.int a)] []) (hX0 : ∀ b, K (.inr (b)) → WM Z I 41 [none, none, some (.int b)] []) : WF Z K (m_X5_segmentEnd_j36 p1 y0 y1 I) I 36 [some (rf (zG Z) p1), none, none] [.int y1, .int y0] := by
  unfold m_X5_segmentEnd_j36
  refine w_iadd C dX5_segmentEnd_36 (q := 37) rfl ?_
  refine w_istore_n C dX5_segmentEnd_37 (Nat.le_of_ble_eq_true rfl) (L' := [some (rf (zG Z) p1), none, some (.int (y0 + y1))]) rfl (q := 38) rfl ?_
  refine w_goto (tgt := 2) C dX5_segmentEnd_38 (by decide) ?_
  exact w_jmp (fun h => WM.less (L' := [some (rf (zG Z) p1), none, some (.int (y0 + y1))]) (hB _ h) ⟨rfl, rfl, trivial⟩)
def m_X5_segmentEnd_b2 (p1 : Nat) (x2 : Int32) (I : Mem) : Option ((Int32) ⊕ ((Int32))) :=
  Option.bind (m_X10_count p1 I) fun r1 => if r1 ≤ x2 then (some (.inr (x2))) else (Option.bind (m_X10_at p1 x2 I) fun r2 => if r2 = 39 then (some (.inr (x2))) else (Option.bind (m_X10_at p1 x2 I) fun r3 => if r3 = 63 then (m_X5_segmentEnd_j36 p1 x2 ((2 : Int32)) I) else (m_X5_segmentEnd_j36 p1 x2 ((1 : Int32)) I)))
set_option maxRecDepth 100000 in
set_option maxHeartbeats 4000000 in
theorem m_X5_segmentEnd_b2_ok {Z : Zx} {K : ((Int32) ⊕ ((Int32))) → Prop} (C : Cx Z cX5_segmentEnd 3 RX5) (hR : RM Z 1 21) (p1 : Nat) (x2 : Int32) (hp1 : isO p1 10) (I : Mem) (hB : ∀ a, K (.inl a) → WM Z I 2 [some (rf (zG Z) p1), none, some (.int a)] []) (hX0 : ∀ b, K (.inr (b)) → WM Z I 41 [none, none, some (.int b)] []) : WF Z K (m_X5_segmentEnd_b2 p1 x2 I) I 2 [some (rf (zG Z) p1), none, some (.int x2)] [] := by
  unfold m_X5_segmentEnd_b2
  refine w_iload_n (v := x2) C dX5_segmentEnd_2 rfl (q := 3) rfl ?_
  refine w_aload_n (v := p1) C dX5_segmentEnd_3 rfl (q := 4) rfl ?_
  refine w_callV (val := fun r1 => some (.int r1)) (mem := fun r1 => I) (st1 := fun r1 => [.int r1, .int x2]) (As := []) (st := [.int x2]) (q := 7) C hR (fun x h => c_X10_count (zl Z) (zG Z)  hp1 I h) hp1 mv_X10_count lk_X5_51 rfl (by decide) (fun _ => rfl) (Nat.le_of_ble_eq_true rfl) rfl rfl dX5_segmentEnd_4 rfl (fun r1 => ?_)
  refine w_icmp_ge (tgt := 41) (q := 10) C dX5_segmentEnd_7 (by decide) rfl (fun _ => ?_) (fun _ => ?_)
  · exact w_jmp (fun h => WM.less (L' := [none, none, some (.int x2)]) (hX0 _ h) ⟨rfl, trivial⟩)
  · refine w_aload_n (v := p1) C dX5_segmentEnd_10 rfl (q := 11) rfl ?_
    refine w_iload_n (v := x2) C dX5_segmentEnd_11 rfl (q := 12) rfl ?_
    refine w_callV (val := fun r2 => some (.int r2)) (mem := fun r2 => I) (st1 := fun r2 => [.int r2]) (As := [.int x2]) (st := []) (q := 15) C hR (fun x h => c_X10_at (zl Z) (zG Z) x2 hp1 I h) hp1 mv_X10_at lk_X5_98 rfl (by decide) (fun _ => rfl) (Nat.le_of_ble_eq_true rfl) rfl rfl dX5_segmentEnd_12 rfl (fun r2 => ?_)
    refine w_bipush (v := (39)) C dX5_segmentEnd_15 (by decide) (q := 17) rfl ?_
    refine w_icmp_eq (tgt := 41) (q := 20) C dX5_segmentEnd_17 (by decide) rfl (fun _ => ?_) (fun _ => ?_)
    · exact w_jmp (fun h => WM.less (L' := [none, none, some (.int x2)]) (hX0 _ h) ⟨rfl, trivial⟩)
    · refine w_iload_n (v := x2) C dX5_segmentEnd_20 rfl (q := 21) rfl ?_
      refine w_aload_n (v := p1) C dX5_segmentEnd_21 rfl (q := 22) rfl ?_
      refine w_iload_n (v := x2) C dX5_segmentEnd_22 rfl (q := 23) rfl ?_
      refine w_callV (val := fun r3 => some (.int r3)) (mem := fun r3 => I) (st1 := fun r3 => [.int r3, .int x2]) (As := [.int x2]) (st := [.int x2]) (q := 26) C hR (fun x h => c_X10_at (zl Z) (zG Z) x2 hp1 I h) hp1 mv_X10_at lk_X5_98 rfl (by decide) (fun _ => rfl) (Nat.le_of_ble_eq_true rfl) rfl rfl dX5_segmentEnd_23 rfl (fun r3 => ?_)
      refine w_bipush (v := (63)) C dX5_segmentEnd_26 (by decide) (q := 28) rfl ?_
      refine w_icmp_ne (tgt := 35) (q := 31) C dX5_segmentEnd_28 (by decide) rfl (fun _ => ?_) (fun _ => ?_)
      · refine w_iconst (v := (2)) C dX5_segmentEnd_31 (by decide) (q := 32) rfl ?_
        refine w_goto (tgt := 36) C dX5_segmentEnd_32 (by decide) ?_
        exact WF.less (L' := [some (rf (zG Z) p1), none, none]) (m_X5_segmentEnd_j36_ok C hR p1 x2 ((2 : Int32)) hp1 I hB hX0) ⟨rfl, trivial⟩
      · refine w_iconst (v := (1)) C dX5_segmentEnd_35 (by decide) (q := 36) rfl ?_
        exact WF.less (L' := [some (rf (zG Z) p1), none, none]) (m_X5_segmentEnd_j36_ok C hR p1 x2 ((1 : Int32)) hp1 I hB hX0) ⟨rfl, trivial⟩
def m_X5_segmentEnd (p1 : Nat) (p2 : Int32) (I : Mem) : Option (Int32) :=
  Option.bind (loopF (fun a => m_X5_segmentEnd_b2 p1 a I) FU p2) (fun b4 => some b4)
set_option maxRecDepth 100000 in
set_option maxHeartbeats 4000000 in
theorem m_X5_segmentEnd_ok {Z : Zx} {K : Int32 → Prop} (C : Cx Z cX5_segmentEnd 3 RX5) (hR : RM Z 1 21) (p1 : Nat) (p2 : Int32) (hp1 : isO p1 10) (I : Mem) (hK : ∀ y, K (y) → RetI Z cX5_segmentEnd .int y I) : WF Z K (m_X5_segmentEnd p1 p2 I) I 0 [some (rf (zG Z) p1), some (.int p2), none] [] := by
  unfold m_X5_segmentEnd
  refine w_iload_n (v := p2) C dX5_segmentEnd_0 rfl (q := 1) rfl ?_
  refine w_istore_n C dX5_segmentEnd_1 (Nat.le_of_ble_eq_true rfl) (L' := [some (rf (zG Z) p1), some (.int p2), some (.int p2)]) rfl (q := 2) rfl ?_
  refine WF.less (L' := [some (rf (zG Z) p1), none, some (.int p2)]) (w_loopF (pc := 2) (a := p2) (mem := fun a => I) (lo := fun a => [some (rf (zG Z) p1), none, some (.int a)]) (E := fun b4 => WM Z I 41 [none, none, some (.int b4)] []) (fun a => m_X5_segmentEnd_b2_ok C hR p1 a hp1 I (fun _ h => h) (fun _ h => h)) ?_) ⟨rfl, rfl, trivial⟩
  intro b4
  refine w_hx ?_
  refine w_iload_n (v := b4) C dX5_segmentEnd_41 rfl (q := 42) rfl ?_
  exact w_iret C (hK _) rfl dX5_segmentEnd_42
theorem c_X5_segmentEnd (l : Launch) (G : Gx) {p1 : Nat} (p2 : Int32) (hp1 : isO p1 10) (I : Mem) {x : Int32} (h : m_X5_segmentEnd p1 p2 I = some x) : Ct l G yX5_segmentEnd cX5_segmentEnd 3 (some (.int)) 1 21 [rf G p1, .int p2] I (some (.int x)) I := Ct.of (by decide +kernel) rfl (Nat.le_of_ble_eq_true rfl) ret_i (fun Z hG hl C hR hret => by
  subst hG
  exact m_X5_segmentEnd_ok (K := fun y => y = x) C hR p1 p2 hp1 I (fun y hy => by subst hy; exact hret) x h rfl)
def m_X5_partEnd_j33 (p1 : Nat) (p3 : Int32) (y0 : Int32) (y1 : Int32) (I : Mem) : Option ((Int32) ⊕ ((Int32))) :=
  some (.inl (y0 + y1))
set_option maxRecDepth 100000 in
set_option maxHeartbeats 4000000 in
theorem m_X5_partEnd_j33_ok {Z : Zx} {K : ((Int32) ⊕ ((Int32))) → Prop} (C : Cx Z cX5_partEnd 4 RX5) (hR : RM Z 1 21) (p1 : Nat) (p3 : Int32) (y0 : Int32) (y1 : Int32) (hp1 : isO p1 10) (I : Mem) (hB : ∀ a, K (.inl a) → WM Z I 2 [some (rf (zG Z) p1), none, some (.int p3), some (.int a)] []) (hX0 : ∀ b, K (.inr (b)) → WM Z I 38 [none, none, none, some (.int b)] []) : WF Z K (m_X5_partEnd_j33 p1 p3 y0 y1 I) I 33 [some (rf (zG Z) p1), none, some (.int p3), none] [.int y1, .int y0] := by
  unfold m_X5_partEnd_j33
  refine w_iadd C dX5_partEnd_33 (q := 34) rfl ?_
  refine w_istore_n C dX5_partEnd_34 (Nat.le_of_ble_eq_true rfl) (L' := [some (rf (zG Z) p1), none, some (.int p3), some (.int (y0 + y1))]) rfl (q := 35) rfl ?_
  refine w_goto (tgt := 2) C dX5_partEnd_35 (by decide) ?_
  exact w_jmp (fun h => WM.less (L' := [some (rf (zG Z) p1), none, some (.int p3), some (.int (y0 + y1))]) (hB _ h) ⟨rfl, rfl, rfl, trivial⟩)
def m_X5_partEnd_b2 (p1 : Nat) (p3 : Int32) (x3 : Int32) (I : Mem) : Option ((Int32) ⊕ ((Int32))) :=
  if p3 ≤ x3 then (some (.inr (x3))) else (Option.bind (m_X10_at p1 x3 I) fun r1 => if r1 = 43 then (some (.inr (x3))) else (Option.bind (m_X10_at p1 x3 I) fun r2 => if r2 = 63 then (m_X5_partEnd_j33 p1 p3 x3 ((2 : Int32)) I) else (m_X5_partEnd_j33 p1 p3 x3 ((1 : Int32)) I)))
set_option maxRecDepth 100000 in
set_option maxHeartbeats 4000000 in
theorem m_X5_partEnd_b2_ok {Z : Zx} {K : ((Int32) ⊕ ((Int32))) → Prop} (C : Cx Z cX5_partEnd 4 RX5) (hR : RM Z 1 21) (p1 : Nat) (p3 : Int32) (x3 : Int32) (hp1 : isO p1 10) (I : Mem) (hB : ∀ a, K (.inl a) → WM Z I 2 [some (rf (zG Z) p1), none, some (.int p3), some (.int a)] []) (hX0 : ∀ b, K (.inr (b)) → WM Z I 38 [none, none, none, some (.int b)] []) : WF Z K (m_X5_partEnd_b2 p1 p3 x3 I) I 2 [some (rf (zG Z) p1), none, some (.int p3), some (.int x3)] [] := by
  unfold m_X5_partEnd_b2
  refine w_iload_n (v := x3) C dX5_partEnd_2 rfl (q := 3) rfl ?_
  refine w_iload_n (v := p3) C dX5_partEnd_3 rfl (q := 4) rfl ?_
  refine w_icmp_ge (tgt := 38) (q := 7) C dX5_partEnd_4 (by decide) rfl (fun _ => ?_) (fun _ => ?_)
  · exact w_jmp (fun h => WM.less (L' := [none, none, none, some (.int x3)]) (hX0 _ h) ⟨rfl, trivial⟩)
  · refine w_aload_n (v := p1) C dX5_partEnd_7 rfl (q := 8) rfl ?_
    refine w_iload_n (v := x3) C dX5_partEnd_8 rfl (q := 9) rfl ?_
    refine w_callV (val := fun r1 => some (.int r1)) (mem := fun r1 => I) (st1 := fun r1 => [.int r1]) (As := [.int x3]) (st := []) (q := 12) C hR (fun x h => c_X10_at (zl Z) (zG Z) x3 hp1 I h) hp1 mv_X10_at lk_X5_98 rfl (by decide) (fun _ => rfl) (Nat.le_of_ble_eq_true rfl) rfl rfl dX5_partEnd_9 rfl (fun r1 => ?_)
    refine w_bipush (v := (43)) C dX5_partEnd_12 (by decide) (q := 14) rfl ?_
    refine w_icmp_eq (tgt := 38) (q := 17) C dX5_partEnd_14 (by decide) rfl (fun _ => ?_) (fun _ => ?_)
    · exact w_jmp (fun h => WM.less (L' := [none, none, none, some (.int x3)]) (hX0 _ h) ⟨rfl, trivial⟩)
    · refine w_iload_n (v := x3) C dX5_partEnd_17 rfl (q := 18) rfl ?_
      refine w_aload_n (v := p1) C dX5_partEnd_18 rfl (q := 19) rfl ?_
      refine w_iload_n (v := x3) C dX5_partEnd_19 rfl (q := 20) rfl ?_
      refine w_callV (val := fun r2 => some (.int r2)) (mem := fun r2 => I) (st1 := fun r2 => [.int r2, .int x3]) (As := [.int x3]) (st := [.int x3]) (q := 23) C hR (fun x h => c_X10_at (zl Z) (zG Z) x3 hp1 I h) hp1 mv_X10_at lk_X5_98 rfl (by decide) (fun _ => rfl) (Nat.le_of_ble_eq_true rfl) rfl rfl dX5_partEnd_20 rfl (fun r2 => ?_)
      refine w_bipush (v := (63)) C dX5_partEnd_23 (by decide) (q := 25) rfl ?_
      refine w_icmp_ne (tgt := 32) (q := 28) C dX5_partEnd_25 (by decide) rfl (fun _ => ?_) (fun _ => ?_)
      · refine w_iconst (v := (2)) C dX5_partEnd_28 (by decide) (q := 29) rfl ?_
        refine w_goto (tgt := 33) C dX5_partEnd_29 (by decide) ?_
        exact WF.less (L' := [some (rf (zG Z) p1), none, some (.int p3), none]) (m_X5_partEnd_j33_ok C hR p1 p3 x3 ((2 : Int32)) hp1 I hB hX0) ⟨rfl, rfl, trivial⟩
      · refine w_iconst (v := (1)) C dX5_partEnd_32 (by decide) (q := 33) rfl ?_
        exact WF.less (L' := [some (rf (zG Z) p1), none, some (.int p3), none]) (m_X5_partEnd_j33_ok C hR p1 p3 x3 ((1 : Int32)) hp1 I hB hX0) ⟨rfl, rfl, trivial⟩
def m_X5_partEnd (p1 : Nat) (p2 : Int32) (p3 : Int32) (I : Mem) : Option (Int32) :=
  Option.bind (loopF (fun a => m_X5_partEnd_b2 p1 p3 a I) FU p2) (fun b3 => some b3)
set_option maxRecDepth 100000 in
set_option maxHeartbeats 4000000 in
theorem m_X5_partEnd_ok {Z : Zx} {K : Int32 → Prop} (C : Cx Z cX5_partEnd 4 RX5) (hR : RM Z 1 21) (p1 : Nat) (p2 : Int32) (p3 : Int32) (hp1 : isO p1 10) (I : Mem) (hK : ∀ y, K (y) → RetI Z cX5_partEnd .int y I) : WF Z K (m_X5_partEnd p1 p2 p3 I) I 0 [some (rf (zG Z) p1), some (.int p2), some (.int p3), none] [] := by
  unfold m_X5_partEnd
  refine w_iload_n (v := p2) C dX5_partEnd_0 rfl (q := 1) rfl ?_
  refine w_istore_n C dX5_partEnd_1 (Nat.le_of_ble_eq_true rfl) (L' := [some (rf (zG Z) p1), some (.int p2), some (.int p3), some (.int p2)]) rfl (q := 2) rfl ?_
  refine WF.less (L' := [some (rf (zG Z) p1), none, some (.int p3), some (.int p2)]) (w_loopF (pc := 2) (a := p2) (mem := fun a => I) (lo := fun a => [some (rf (zG Z) p1), none, some (.int p3), some (.int a)]) (E := fun b3 => WM Z I 38 [none, none, none, some (.int b3)] []) (fun a => m_X5_partEnd_b2_ok C hR p1 p3 a hp1 I (fun _ h => h) (fun _ h => h)) ?_) ⟨rfl, rfl, rfl, trivial⟩
  intro b3
  refine w_hx ?_
  refine w_iload_n (v := b3) C dX5_partEnd_38 rfl (q := 39) rfl ?_
  exact w_iret C (hK _) rfl dX5_partEnd_39
theorem c_X5_partEnd (l : Launch) (G : Gx) {p1 : Nat} (p2 : Int32) (p3 : Int32) (hp1 : isO p1 10) (I : Mem) {x : Int32} (h : m_X5_partEnd p1 p2 p3 I = some x) : Ct l G yX5_partEnd cX5_partEnd 4 (some (.int)) 1 21 [rf G p1, .int p2, .int p3] I (some (.int x)) I := Ct.of (by decide +kernel) rfl (Nat.le_of_ble_eq_true rfl) ret_i (fun Z hG hl C hR hret => by
  subst hG
  exact m_X5_partEnd_ok (K := fun y => y = x) C hR p1 p2 p3 hp1 I (fun y hy => by subst hy; exact hret) x h rfl)
def m_X5_tagBetween_j30 (p1 : Nat) (x3 : Int32) (y0 : Int32) (I : Mem) : Option (Int32) :=
  if y0 = 0 then (some 32) else (Option.bind (m_X10_at p1 x3 I) fun r2 => Option.bind (m_X11_isTag r2 I) fun r3 => if r3 = 0 then (some 32) else (Option.bind (m_X10_at p1 x3 I) fun r4 => gd (okc r4) (some r4)))
set_option maxRecDepth 100000 in
set_option maxHeartbeats 4000000 in
theorem m_X5_tagBetween_j30_ok {Z : Zx} {K : Int32 → Prop} (C : Cx Z cX5_tagBetween 5 RX5) (hR : RM Z 1 21) (p1 : Nat) (x3 : Int32) (y0 : Int32) (hp1 : isO p1 10) (I : Mem) (hK : ∀ y, K (y) → RetI Z cX5_tagBetween .char y I) : WF Z K (m_X5_tagBetween_j30 p1 x3 y0 I) I 30 [some (rf (zG Z) p1), none, none, some (.int x3), none] [.int y0] := by
  unfold m_X5_tagBetween_j30
  refine w_istore C dX5_tagBetween_30 (Nat.le_of_ble_eq_true rfl) (L' := [some (rf (zG Z) p1), none, none, some (.int x3), some (.int y0)]) rfl (q := 32) rfl ?_
  refine w_iload (v := y0) C dX5_tagBetween_32 rfl (q := 34) rfl ?_
  refine w_if_eq (tgt := 56) (q := 37) C dX5_tagBetween_34 (by decide) rfl (fun _ => ?_) (fun _ => ?_)
  · refine w_bipush (v := (32)) C dX5_tagBetween_56 (by decide) (q := 58) rfl ?_
    exact w_iret C (hK _) (by decide) dX5_tagBetween_58
  · refine w_aload_n (v := p1) C dX5_tagBetween_37 rfl (q := 38) rfl ?_
    refine w_iload_n (v := x3) C dX5_tagBetween_38 rfl (q := 39) rfl ?_
    refine w_callV (val := fun r2 => some (.int r2)) (mem := fun r2 => I) (st1 := fun r2 => [.int r2]) (As := [.int x3]) (st := []) (q := 42) C hR (fun x h => c_X10_at (zl Z) (zG Z) x3 hp1 I h) hp1 mv_X10_at lk_X5_98 rfl (by decide) (fun _ => rfl) (Nat.le_of_ble_eq_true rfl) rfl rfl dX5_tagBetween_39 rfl (fun r2 => ?_)
    refine w_callSN (val := fun r3 => some (.int r3)) (mem := fun r3 => I) (st1 := fun r3 => [.int r3]) (As := [.int r2]) (st := []) (q := 45) C hR (fun x h => c_X11_isTag (zl Z) (zG Z) r2  I h) mv_X11_isTag lk_X5_88 rfl (by decide) (fun _ => rfl) (Nat.le_of_ble_eq_true rfl) rfl rfl dX5_tagBetween_42 rfl (fun r3 => ?_)
    refine w_if_eq (tgt := 56) (q := 48) C dX5_tagBetween_45 (by decide) rfl (fun _ => ?_) (fun _ => ?_)
    · refine w_bipush (v := (32)) C dX5_tagBetween_56 (by decide) (q := 58) rfl ?_
      exact w_iret C (hK _) (by decide) dX5_tagBetween_58
    · refine w_aload_n (v := p1) C dX5_tagBetween_48 rfl (q := 49) rfl ?_
      refine w_iload_n (v := x3) C dX5_tagBetween_49 rfl (q := 50) rfl ?_
      refine w_callV (val := fun r4 => some (.int r4)) (mem := fun r4 => I) (st1 := fun r4 => [.int r4]) (As := [.int x3]) (st := []) (q := 53) C hR (fun x h => c_X10_at (zl Z) (zG Z) x3 hp1 I h) hp1 mv_X10_at lk_X5_98 rfl (by decide) (fun _ => rfl) (Nat.le_of_ble_eq_true rfl) rfl rfl dX5_tagBetween_50 rfl (fun r4 => ?_)
      refine w_goto (tgt := 58) C dX5_tagBetween_53 (by decide) ?_
      refine w_gd (fun h5 => ?_)
      exact w_iret C (hK _) (okc_n h5).1 dX5_tagBetween_58
def m_X5_tagBetween_j17 (p1 : Nat) (p3 : Int32) (y0 : Int32) (I : Mem) : Option (Int32) :=
  if y0 + 1 = p3 then (m_X5_tagBetween_j30 p1 y0 ((1 : Int32)) I) else (m_X5_tagBetween_j30 p1 y0 ((0 : Int32)) I)
set_option maxRecDepth 100000 in
set_option maxHeartbeats 4000000 in
theorem m_X5_tagBetween_j17_ok {Z : Zx} {K : Int32 → Prop} (C : Cx Z cX5_tagBetween 5 RX5) (hR : RM Z 1 21) (p1 : Nat) (p3 : Int32) (y0 : Int32) (hp1 : isO p1 10) (I : Mem) (hK : ∀ y, K (y) → RetI Z cX5_tagBetween .char y I) : WF Z K (m_X5_tagBetween_j17 p1 p3 y0 I) I 17 [some (rf (zG Z) p1), none, some (.int p3), none, none] [.int y0] := by
  unfold m_X5_tagBetween_j17
  refine w_istore_n C dX5_tagBetween_17 (Nat.le_of_ble_eq_true rfl) (L' := [some (rf (zG Z) p1), none, some (.int p3), some (.int y0), none]) rfl (q := 18) rfl ?_
  refine w_iload_n (v := y0) C dX5_tagBetween_18 rfl (q := 19) rfl ?_
  refine w_iconst (v := (1)) C dX5_tagBetween_19 (by decide) (q := 20) rfl ?_
  refine w_iadd C dX5_tagBetween_20 (q := 21) rfl ?_
  refine w_iload_n (v := p3) C dX5_tagBetween_21 rfl (q := 22) rfl ?_
  refine w_icmp_ne (tgt := 29) (q := 25) C dX5_tagBetween_22 (by decide) rfl (fun _ => ?_) (fun _ => ?_)
  · refine w_iconst (v := (1)) C dX5_tagBetween_25 (by decide) (q := 26) rfl ?_
    refine w_goto (tgt := 30) C dX5_tagBetween_26 (by decide) ?_
    exact WF.less (L' := [some (rf (zG Z) p1), none, none, some (.int y0), none]) (m_X5_tagBetween_j30_ok C hR p1 y0 ((1 : Int32)) hp1 I hK) ⟨rfl, rfl, trivial⟩
  · refine w_iconst (v := (0)) C dX5_tagBetween_29 (by decide) (q := 30) rfl ?_
    exact WF.less (L' := [some (rf (zG Z) p1), none, none, some (.int y0), none]) (m_X5_tagBetween_j30_ok C hR p1 y0 ((0 : Int32)) hp1 I hK) ⟨rfl, rfl, trivial⟩
def m_X5_tagBetween (p1 : Nat) (p2 : Int32) (p3 : Int32) (I : Mem) : Option (Int32) :=
  Option.bind (m_X10_at p1 p2 I) fun r1 => if r1 = 63 then (m_X5_tagBetween_j17 p1 p3 (p2 + 1) I) else (m_X5_tagBetween_j17 p1 p3 p2 I)
set_option maxRecDepth 100000 in
set_option maxHeartbeats 4000000 in
theorem m_X5_tagBetween_ok {Z : Zx} {K : Int32 → Prop} (C : Cx Z cX5_tagBetween 5 RX5) (hR : RM Z 1 21) (p1 : Nat) (p2 : Int32) (p3 : Int32) (hp1 : isO p1 10) (I : Mem) (hK : ∀ y, K (y) → RetI Z cX5_tagBetween .char y I) : WF Z K (m_X5_tagBetween p1 p2 p3 I) I 0 [some (rf (zG Z) p1), some (.int p2), some (.int p3), none, none] [] := by
  unfold m_X5_tagBetween
  refine w_aload_n (v := p1) C dX5_tagBetween_0 rfl (q := 1) rfl ?_
  refine w_iload_n (v := p2) C dX5_tagBetween_1 rfl (q := 2) rfl ?_
  refine w_callV (val := fun r1 => some (.int r1)) (mem := fun r1 => I) (st1 := fun r1 => [.int r1]) (As := [.int p2]) (st := []) (q := 5) C hR (fun x h => c_X10_at (zl Z) (zG Z) p2 hp1 I h) hp1 mv_X10_at lk_X5_98 rfl (by decide) (fun _ => rfl) (Nat.le_of_ble_eq_true rfl) rfl rfl dX5_tagBetween_2 rfl (fun r1 => ?_)
  refine w_bipush (v := (63)) C dX5_tagBetween_5 (by decide) (q := 7) rfl ?_
  refine w_icmp_ne (tgt := 16) (q := 10) C dX5_tagBetween_7 (by decide) rfl (fun _ => ?_) (fun _ => ?_)
  · refine w_iload_n (v := p2) C dX5_tagBetween_10 rfl (q := 11) rfl ?_
    refine w_iconst (v := (1)) C dX5_tagBetween_11 (by decide) (q := 12) rfl ?_
    refine w_iadd C dX5_tagBetween_12 (q := 13) rfl ?_
    refine w_goto (tgt := 17) C dX5_tagBetween_13 (by decide) ?_
    exact WF.less (L' := [some (rf (zG Z) p1), none, some (.int p3), none, none]) (m_X5_tagBetween_j17_ok C hR p1 p3 (p2 + 1) hp1 I hK) ⟨rfl, rfl, trivial⟩
  · refine w_iload_n (v := p2) C dX5_tagBetween_16 rfl (q := 17) rfl ?_
    exact WF.less (L' := [some (rf (zG Z) p1), none, some (.int p3), none, none]) (m_X5_tagBetween_j17_ok C hR p1 p3 p2 hp1 I hK) ⟨rfl, rfl, trivial⟩
theorem c_X5_tagBetween (l : Launch) (G : Gx) {p1 : Nat} (p2 : Int32) (p3 : Int32) (hp1 : isO p1 10) (I : Mem) {x : Int32} (h : m_X5_tagBetween p1 p2 p3 I = some x) : Ct l G yX5_tagBetween cX5_tagBetween 5 (some (.char)) 1 21 [rf G p1, .int p2, .int p3] I (some (.int x)) I := Ct.of (by decide +kernel) rfl (Nat.le_of_ble_eq_true rfl) ret_i (fun Z hG hl C hR hret => by
  subst hG
  exact m_X5_tagBetween_ok (K := fun y => y = x) C hR p1 p2 p3 hp1 I (fun y hy => by subst hy; exact hret) x h rfl)
def m_X9_append_j40 (k : Nat) (x2 : Int32) (I : Mem) : Option (Mem) :=
  gd (inb x2 5) (gd (inb x2 5) (bnd (ms I (k + 2) x2.toNatClampNeg ((I (k + 2) x2.toNatClampNeg) + 1)) fun I1 => some I1))
set_option maxRecDepth 100000 in
set_option maxHeartbeats 4000000 in
theorem m_X9_append_j40_ok {Z : Zx} {K : Mem → Prop} (C : Cx Z cX9_append 3 RX9) (hR : RM Z 0 0) (k : Nat) (x2 : Int32) (hk : isO k 9) (I : Mem) (hK : ∀ y, K (y) → RetV Z cX9_append y) : WF Z K (m_X9_append_j40 k x2 I) I 40 [some (rf (zG Z) k), none, some (.int x2)] [] := by
  unfold m_X9_append_j40
  refine w_aload_n (v := k) C dX9_append_40 rfl (q := 41) rfl ?_
  refine g_X9_1 C hk lk_X9_15 dX9_append_41 (q := 44) rfl ?_
  refine w_iload_n (v := x2) C dX9_append_44 rfl (q := 45) rfl ?_
  refine w_dup2 C dX9_append_45 rfl rfl (q := 46) rfl ?_
  refine w_iald C (st_X9_1 hk).2 dX9_append_46 (q := 47) rfl (fun _ => ?_)
  refine w_iconst (v := (1)) C dX9_append_47 (by decide) (q := 48) rfl ?_
  refine w_iadd C dX9_append_48 (q := 49) rfl ?_
  refine w_iast C (st_X9_1 hk).2 dX9_append_49 (q := 50) rfl (fun _ I1 => ?_)
  exact w_vret C (hK _) dX9_append_50
def m_X9_append (k : Nat) (p1 : Int32) (I : Mem) : Option (Mem) :=
  if 0 ≤ (I k 4) - 1 then (gd (inb ((I k 4) - 1) 5) (if 8 ≤ I (k + 2) ((I k 4) - 1).toNatClampNeg then (m_X9_append_j40 k ((I k 4) - 1) I) else (gd (inb ((I k 4) - 1) 5) (gd (inb ((((I k 4) - 1) * 8) + (I (k + 2) ((I k 4) - 1).toNatClampNeg)) 40) (gd (okc p1) (bnd (ms I (k + 1) ((((I k 4) - 1) * 8) + (I (k + 2) ((I k 4) - 1).toNatClampNeg)).toNatClampNeg p1) fun I2 => m_X9_append_j40 k ((I k 4) - 1) I2)))))) else (some I)
set_option maxRecDepth 100000 in
set_option maxHeartbeats 4000000 in
theorem m_X9_append_ok {Z : Zx} {K : Mem → Prop} (C : Cx Z cX9_append 3 RX9) (hR : RM Z 0 0) (k : Nat) (p1 : Int32) (hk : isO k 9) (I : Mem) (hK : ∀ y, K (y) → RetV Z cX9_append y) : WF Z K (m_X9_append k p1 I) I 0 [some (rf (zG Z) k), some (.int p1), none] [] := by
  unfold m_X9_append
  refine w_aload_n (v := k) C dX9_append_0 rfl (q := 1) rfl ?_
  refine g_X9_4 C hk lk_X9_27 dX9_append_1 (q := 4) rfl ?_
  refine w_iconst (v := (1)) C dX9_append_4 (by decide) (q := 5) rfl ?_
  refine w_isub C dX9_append_5 (q := 6) rfl ?_
  refine w_istore_n C dX9_append_6 (Nat.le_of_ble_eq_true rfl) (L' := [some (rf (zG Z) k), some (.int p1), some (.int ((I k 4) - 1))]) rfl (q := 7) rfl ?_
  refine w_iload_n (v := (I k 4) - 1) C dX9_append_7 rfl (q := 8) rfl ?_
  refine w_if_ge (tgt := 12) (q := 11) C dX9_append_8 (by decide) rfl (fun _ => ?_) (fun _ => ?_)
  · refine w_aload_n (v := k) C dX9_append_12 rfl (q := 13) rfl ?_
    refine g_X9_1 C hk lk_X9_15 dX9_append_13 (q := 16) rfl ?_
    refine w_iload_n (v := (I k 4) - 1) C dX9_append_16 rfl (q := 17) rfl ?_
    refine w_iald C (st_X9_1 hk).2 dX9_append_17 (q := 18) rfl (fun _ => ?_)
    refine w_bipush (v := (8)) C dX9_append_18 (by decide) (q := 20) rfl ?_
    refine w_icmp_ge (tgt := 40) (q := 23) C dX9_append_20 (by decide) rfl (fun _ => ?_) (fun _ => ?_)
    · exact WF.less (L' := [some (rf (zG Z) k), none, some (.int ((I k 4) - 1))]) (m_X9_append_j40_ok C hR k ((I k 4) - 1) hk I hK) ⟨rfl, rfl, trivial⟩
    · refine w_aload_n (v := k) C dX9_append_23 rfl (q := 24) rfl ?_
      refine g_X9_0 C hk lk_X9_9 dX9_append_24 (q := 27) rfl ?_
      refine w_iload_n (v := (I k 4) - 1) C dX9_append_27 rfl (q := 28) rfl ?_
      refine w_bipush (v := (8)) C dX9_append_28 (by decide) (q := 30) rfl ?_
      refine w_imul C dX9_append_30 (q := 31) rfl ?_
      refine w_aload_n (v := k) C dX9_append_31 rfl (q := 32) rfl ?_
      refine g_X9_1 C hk lk_X9_15 dX9_append_32 (q := 35) rfl ?_
      refine w_iload_n (v := (I k 4) - 1) C dX9_append_35 rfl (q := 36) rfl ?_
      refine w_iald C (st_X9_1 hk).2 dX9_append_36 (q := 37) rfl (fun _ => ?_)
      refine w_iadd C dX9_append_37 (q := 38) rfl ?_
      refine w_iload_n (v := p1) C dX9_append_38 rfl (q := 39) rfl ?_
      refine w_cast C (st_X9_0 hk).2 dX9_append_39 (q := 40) rfl (fun _ I2 => ?_)
      exact WF.less (L' := [some (rf (zG Z) k), none, some (.int ((I k 4) - 1))]) (m_X9_append_j40_ok C hR k ((I k 4) - 1) hk I2 hK) ⟨rfl, rfl, trivial⟩
  · exact w_vret C (hK _) dX9_append_11
theorem c_X9_append (l : Launch) (G : Gx) {k : Nat} (p1 : Int32) (hk : isO k 9) (I : Mem) {x : Mem} (h : m_X9_append k p1 I = some x) : Ct l G yX9_append cX9_append 3 none 0 0 [rf G k, .int p1] I (none) x := Ct.of (by decide +kernel) rfl (Nat.le_of_ble_eq_true rfl) ret_v (fun Z hG hl C hR hret => by
  subst hG
  exact m_X9_append_ok (K := fun y => y = x) C hR k p1 hk I (fun y hy => by subst hy; exact hret) x h rfl)
def m_X9_beginElement (k : Nat) (I : Mem) : Option (Mem) :=
  if 5 ≤ I k 4 then (some I) else (gd (inb (I k 4) 5) (bnd (ms I (k + 2) (I k 4).toNatClampNeg 0) fun I1 => bnd (ms I1 k 4 ((I1 k 4) + 1)) fun I2 => some I2))
set_option maxRecDepth 100000 in
set_option maxHeartbeats 4000000 in
theorem m_X9_beginElement_ok {Z : Zx} {K : Mem → Prop} (C : Cx Z cX9_beginElement 1 RX9) (hR : RM Z 0 0) (k : Nat) (hk : isO k 9) (I : Mem) (hK : ∀ y, K (y) → RetV Z cX9_beginElement y) : WF Z K (m_X9_beginElement k I) I 0 [some (rf (zG Z) k)] [] := by
  unfold m_X9_beginElement
  refine w_aload_n (v := k) C dX9_beginElement_0 rfl (q := 1) rfl ?_
  refine g_X9_4 C hk lk_X9_27 dX9_beginElement_1 (q := 4) rfl ?_
  refine w_iconst (v := (5)) C dX9_beginElement_4 (by decide) (q := 5) rfl ?_
  refine w_icmp_ge (tgt := 28) (q := 8) C dX9_beginElement_5 (by decide) rfl (fun _ => ?_) (fun _ => ?_)
  · exact w_vret C (hK _) dX9_beginElement_28
  · refine w_aload_n (v := k) C dX9_beginElement_8 rfl (q := 9) rfl ?_
    refine g_X9_1 C hk lk_X9_15 dX9_beginElement_9 (q := 12) rfl ?_
    refine w_aload_n (v := k) C dX9_beginElement_12 rfl (q := 13) rfl ?_
    refine g_X9_4 C hk lk_X9_27 dX9_beginElement_13 (q := 16) rfl ?_
    refine w_iconst (v := (0)) C dX9_beginElement_16 (by decide) (q := 17) rfl ?_
    refine w_iast C (st_X9_1 hk).2 dX9_beginElement_17 (q := 18) rfl (fun _ I1 => ?_)
    refine w_aload_n (v := k) C dX9_beginElement_18 rfl (q := 19) rfl ?_
    refine w_dup C dX9_beginElement_19 rfl (q := 20) rfl ?_
    refine g_X9_4 C hk lk_X9_27 dX9_beginElement_20 (q := 23) rfl ?_
    refine w_iconst (v := (1)) C dX9_beginElement_23 (by decide) (q := 24) rfl ?_
    refine w_iadd C dX9_beginElement_24 (q := 25) rfl ?_
    refine p_X9_4 C hk  lk_X9_27 dX9_beginElement_25 (q := 28) rfl (fun I2 => ?_)
    exact w_vret C (hK _) dX9_beginElement_28
theorem c_X9_beginElement (l : Launch) (G : Gx) {k : Nat} (hk : isO k 9) (I : Mem) {x : Mem} (h : m_X9_beginElement k I = some x) : Ct l G yX9_beginElement cX9_beginElement 1 none 0 0 [rf G k] I (none) x := Ct.of (by decide +kernel) rfl (Nat.le_of_ble_eq_true rfl) ret_v (fun Z hG hl C hR hret => by
  subst hG
  exact m_X9_beginElement_ok (K := fun y => y = x) C hR k hk I (fun y hy => by subst hy; exact hret) x h rfl)
def m_X9_elementCount (k : Nat) (I : Mem) : Option (Int32) :=
  some (I k 4)
set_option maxRecDepth 100000 in
set_option maxHeartbeats 4000000 in
theorem m_X9_elementCount_ok {Z : Zx} {K : Int32 → Prop} (C : Cx Z cX9_elementCount 1 RX9) (hR : RM Z 0 0) (k : Nat) (hk : isO k 9) (I : Mem) (hK : ∀ y, K (y) → RetI Z cX9_elementCount .int y I) : WF Z K (m_X9_elementCount k I) I 0 [some (rf (zG Z) k)] [] := by
  unfold m_X9_elementCount
  refine w_aload_n (v := k) C dX9_elementCount_0 rfl (q := 1) rfl ?_
  refine g_X9_4 C hk lk_X9_27 dX9_elementCount_1 (q := 4) rfl ?_
  exact w_iret C (hK _) rfl dX9_elementCount_4
theorem c_X9_elementCount (l : Launch) (G : Gx) {k : Nat} (hk : isO k 9) (I : Mem) {x : Int32} (h : m_X9_elementCount k I = some x) : Ct l G yX9_elementCount cX9_elementCount 1 (some (.int)) 0 0 [rf G k] I (some (.int x)) I := Ct.of (by decide +kernel) rfl (Nat.le_of_ble_eq_true rfl) ret_i (fun Z hG hl C hR hret => by
  subst hG
  exact m_X9_elementCount_ok (K := fun y => y = x) C hR k hk I (fun y hy => by subst hy; exact hret) x h rfl)
