def m_X3_placesBeforePass_j138 (k : Nat) (p1 : Nat) (x4 : Int32) (y0 : Int32) (I : Mem) : Option ((Int32 × Int32 × Mem) ⊕ ((Int32 × Mem))) :=
  some (.inl (y0, x4 + (-1), I))
set_option maxRecDepth 100000 in
set_option maxHeartbeats 4000000 in
theorem m_X3_placesBeforePass_j138_ok {Z : Zx} {K : ((Int32 × Int32 × Mem) ⊕ ((Int32 × Mem))) → Prop} (C : Cx Z cX3_placesBeforePass 9 RX3) (hR : RM Z 1 26) (k : Nat) (p1 : Nat) (x4 : Int32) (y0 : Int32) (hk : isO k 3) (hp1 : isO p1 0) (I : Mem) (hB : ∀ a, K (.inl a) → WM Z a.2.2 22 [some (rf (zG Z) k), some (rf (zG Z) p1), none, some (.int a.1), some (.int a.2.1), none, none, none, none] []) (hX0 : ∀ b, K (.inr (b)) → WM Z b.2 145 [none, none, none, some (.int b.1), none, none, none, none, none] []) : WF Z K (m_X3_placesBeforePass_j138 k p1 x4 y0 I) I 138 [some (rf (zG Z) k), some (rf (zG Z) p1), none, none, some (.int x4), none, none, none, none] [.int y0] := by
  unfold m_X3_placesBeforePass_j138
  refine w_istore_n C dX3_placesBeforePass_138 (Nat.le_of_ble_eq_true rfl) (L' := [some (rf (zG Z) k), some (rf (zG Z) p1), none, some (.int y0), some (.int x4), none, none, none, none]) rfl (q := 139) rfl ?_
  refine w_iinc (v := x4 + (-1)) C dX3_placesBeforePass_139 rfl rfl (L' := [some (rf (zG Z) k), some (rf (zG Z) p1), none, some (.int y0), some (.int (x4 + (-1))), none, none, none, none]) rfl (q := 142) rfl ?_
  refine w_goto (tgt := 22) C dX3_placesBeforePass_142 (by decide) ?_
  exact w_jmp (fun h => WM.less (L' := [some (rf (zG Z) k), some (rf (zG Z) p1), none, some (.int y0), some (.int (x4 + (-1))), none, none, none, none]) (hB _ h) ⟨rfl, rfl, rfl, rfl, trivial⟩)
def m_X3_placesBeforePass_j121 (k : Nat) (p1 : Nat) (x3 : Int32) (x4 : Int32) (x7 : Int32) (x8 : Int32) (y0 : Nat) (y1 : Int32) (y2 : Int32) (I : Mem) : Option ((Int32 × Int32 × Mem) ⊕ ((Int32 × Mem))) :=
  Option.bind (m_X3_put11 y0 y1 y2 I) fun I7 => if x8 = 0 then (m_X3_placesBeforePass_j138 k p1 x4 x7 I7) else (m_X3_placesBeforePass_j138 k p1 x4 (x7 ||| x3) I7)
set_option maxRecDepth 100000 in
set_option maxHeartbeats 4000000 in
theorem m_X3_placesBeforePass_j121_ok {Z : Zx} {K : ((Int32 × Int32 × Mem) ⊕ ((Int32 × Mem))) → Prop} (C : Cx Z cX3_placesBeforePass 9 RX3) (hR : RM Z 1 26) (k : Nat) (p1 : Nat) (x3 : Int32) (x4 : Int32) (x7 : Int32) (x8 : Int32) (y0 : Nat) (y1 : Int32) (y2 : Int32) (hk : isO k 3) (hp1 : isO p1 0) (hy0 : isA y0 0 11) (I : Mem) (hB : ∀ a, K (.inl a) → WM Z a.2.2 22 [some (rf (zG Z) k), some (rf (zG Z) p1), none, some (.int a.1), some (.int a.2.1), none, none, none, none] []) (hX0 : ∀ b, K (.inr (b)) → WM Z b.2 145 [none, none, none, some (.int b.1), none, none, none, none, none] []) : WF Z K (m_X3_placesBeforePass_j121 k p1 x3 x4 x7 x8 y0 y1 y2 I) I 121 [some (rf (zG Z) k), some (rf (zG Z) p1), none, some (.int x3), some (.int x4), none, none, some (.int x7), some (.int x8)] [.int y2, .int y1, rf (zG Z) y0] := by
  unfold m_X3_placesBeforePass_j121
  refine w_callS (val := fun I7 => none) (mem := fun I7 => I7) (st1 := fun I7 => []) (As := [rf (zG Z) y0, .int y1, .int y2]) (st := []) (q := 124) C hR (fun x h => c_X3_put11 (zl Z) (zG Z) y1 y2 hy0 I h) mv_X3_put lk_X3_43 rfl (by decide) (fun _ => rfl) (Nat.le_of_ble_eq_true rfl) rfl rfl dX3_placesBeforePass_121 rfl (fun I7 => ?_)
  refine w_iload (v := x8) C dX3_placesBeforePass_124 rfl (q := 126) rfl ?_
  refine w_if_eq (tgt := 136) (q := 129) C dX3_placesBeforePass_126 (by decide) rfl (fun _ => ?_) (fun _ => ?_)
  · refine w_iload (v := x7) C dX3_placesBeforePass_136 rfl (q := 138) rfl ?_
    exact WF.less (L' := [some (rf (zG Z) k), some (rf (zG Z) p1), none, none, some (.int x4), none, none, none, none]) (m_X3_placesBeforePass_j138_ok C hR k p1 x4 x7 hk hp1 I7 hB hX0) ⟨rfl, rfl, rfl, trivial⟩
  · refine w_iload (v := x7) C dX3_placesBeforePass_129 rfl (q := 131) rfl ?_
    refine w_iload_n (v := x3) C dX3_placesBeforePass_131 rfl (q := 132) rfl ?_
    refine w_ior C dX3_placesBeforePass_132 (q := 133) rfl ?_
    refine w_goto (tgt := 138) C dX3_placesBeforePass_133 (by decide) ?_
    exact WF.less (L' := [some (rf (zG Z) k), some (rf (zG Z) p1), none, none, some (.int x4), none, none, none, none]) (m_X3_placesBeforePass_j138_ok C hR k p1 x4 (x7 ||| x3) hk hp1 I7 hB hX0) ⟨rfl, rfl, rfl, trivial⟩
def m_X3_placesBeforePass_j98 (k : Nat) (p1 : Nat) (x3 : Int32) (x4 : Int32) (x6 : Int32) (x7 : Int32) (y0 : Int32) (I : Mem) : Option ((Int32 × Int32 × Mem) ⊕ ((Int32 × Mem))) :=
  if y0 = 0 then (m_X3_placesBeforePass_j121 k p1 x3 x4 x7 y0 (k + 4) x4 x7 I) else (m_X3_placesBeforePass_j121 k p1 x3 x4 x7 y0 (k + 4) x4 (x7 ||| x6) I)
set_option maxRecDepth 100000 in
set_option maxHeartbeats 4000000 in
theorem m_X3_placesBeforePass_j98_ok {Z : Zx} {K : ((Int32 × Int32 × Mem) ⊕ ((Int32 × Mem))) → Prop} (C : Cx Z cX3_placesBeforePass 9 RX3) (hR : RM Z 1 26) (k : Nat) (p1 : Nat) (x3 : Int32) (x4 : Int32) (x6 : Int32) (x7 : Int32) (y0 : Int32) (hk : isO k 3) (hp1 : isO p1 0) (I : Mem) (hB : ∀ a, K (.inl a) → WM Z a.2.2 22 [some (rf (zG Z) k), some (rf (zG Z) p1), none, some (.int a.1), some (.int a.2.1), none, none, none, none] []) (hX0 : ∀ b, K (.inr (b)) → WM Z b.2 145 [none, none, none, some (.int b.1), none, none, none, none, none] []) : WF Z K (m_X3_placesBeforePass_j98 k p1 x3 x4 x6 x7 y0 I) I 98 [some (rf (zG Z) k), some (rf (zG Z) p1), none, some (.int x3), some (.int x4), none, some (.int x6), some (.int x7), none] [.int y0] := by
  unfold m_X3_placesBeforePass_j98
  refine w_istore C dX3_placesBeforePass_98 (Nat.le_of_ble_eq_true rfl) (L' := [some (rf (zG Z) k), some (rf (zG Z) p1), none, some (.int x3), some (.int x4), none, some (.int x6), some (.int x7), some (.int y0)]) rfl (q := 100) rfl ?_
  refine w_aload_n (v := k) C dX3_placesBeforePass_100 rfl (q := 101) rfl ?_
  refine g_X3_4 C hk lk_X3_21 dX3_placesBeforePass_101 (q := 104) rfl ?_
  refine w_iload (v := x4) C dX3_placesBeforePass_104 rfl (q := 106) rfl ?_
  refine w_iload (v := y0) C dX3_placesBeforePass_106 rfl (q := 108) rfl ?_
  refine w_if_eq (tgt := 119) (q := 111) C dX3_placesBeforePass_108 (by decide) rfl (fun _ => ?_) (fun _ => ?_)
  · refine w_iload (v := x7) C dX3_placesBeforePass_119 rfl (q := 121) rfl ?_
    exact WF.less (L' := [some (rf (zG Z) k), some (rf (zG Z) p1), none, some (.int x3), some (.int x4), none, none, some (.int x7), some (.int y0)]) (m_X3_placesBeforePass_j121_ok C hR k p1 x3 x4 x7 y0 (k + 4) x4 x7 hk hp1 (st_X3_4 hk).2 I hB hX0) ⟨rfl, rfl, rfl, rfl, rfl, rfl, trivial⟩
  · refine w_iload (v := x7) C dX3_placesBeforePass_111 rfl (q := 113) rfl ?_
    refine w_iload (v := x6) C dX3_placesBeforePass_113 rfl (q := 115) rfl ?_
    refine w_ior C dX3_placesBeforePass_115 (q := 116) rfl ?_
    refine w_goto (tgt := 121) C dX3_placesBeforePass_116 (by decide) ?_
    exact WF.less (L' := [some (rf (zG Z) k), some (rf (zG Z) p1), none, some (.int x3), some (.int x4), none, none, some (.int x7), some (.int y0)]) (m_X3_placesBeforePass_j121_ok C hR k p1 x3 x4 x7 y0 (k + 4) x4 (x7 ||| x6) hk hp1 (st_X3_4 hk).2 I hB hX0) ⟨rfl, rfl, rfl, rfl, rfl, rfl, trivial⟩
def m_X3_placesBeforePass_b22 (k : Nat) (p1 : Nat) (x3 : Int32) (x4 : Int32) (I : Mem) : Option ((Int32 × Int32 × Mem) ⊕ ((Int32 × Mem))) :=
  if x4 < I p1 1 then (some (.inr ((x3, I)))) else (Option.bind (m_X8_itemAt (k - 32) x4 I) fun r2 => gd (iO r2 2) (Option.bind (m_X3_at11 (k + 4) (x4 + 1) I) fun r4 => Option.bind (m_X3_at10 (k + 1) x4 I) fun r5 => Option.bind (m_X3_placesBeforeItem r5 (if I r2 1 < 1 then 1 else I r2 1) (I r2 2) r4 I) fun r6 => if I r2 1 = 0 then (m_X3_placesBeforePass_j98 k p1 x3 x4 r4 r6 ((1 : Int32)) I) else (m_X3_placesBeforePass_j98 k p1 x3 x4 r4 r6 ((0 : Int32)) I)))
set_option maxRecDepth 100000 in
set_option maxHeartbeats 4000000 in
theorem m_X3_placesBeforePass_b22_ok {Z : Zx} {K : ((Int32 × Int32 × Mem) ⊕ ((Int32 × Mem))) → Prop} (C : Cx Z cX3_placesBeforePass 9 RX3) (hR : RM Z 1 26) (k : Nat) (p1 : Nat) (x3 : Int32) (x4 : Int32) (hk : isO k 3) (hp1 : isO p1 0) (I : Mem) (hB : ∀ a, K (.inl a) → WM Z a.2.2 22 [some (rf (zG Z) k), some (rf (zG Z) p1), none, some (.int a.1), some (.int a.2.1), none, none, none, none] []) (hX0 : ∀ b, K (.inr (b)) → WM Z b.2 145 [none, none, none, some (.int b.1), none, none, none, none, none] []) : WF Z K (m_X3_placesBeforePass_b22 k p1 x3 x4 I) I 22 [some (rf (zG Z) k), some (rf (zG Z) p1), none, some (.int x3), some (.int x4), none, none, none, none] [] := by
  unfold m_X3_placesBeforePass_b22
  refine w_iload (v := x4) C dX3_placesBeforePass_22 rfl (q := 24) rfl ?_
  refine w_aload_n (v := p1) C dX3_placesBeforePass_24 rfl (q := 25) rfl ?_
  refine gN_X0_1 C hp1 lk_X3_111 dX3_placesBeforePass_25 (q := 28) rfl ?_
  refine w_icmp_lt (tgt := 145) (q := 31) C dX3_placesBeforePass_28 (by decide) rfl (fun _ => ?_) (fun _ => ?_)
  · exact w_jmp (fun h => WM.less (L' := [none, none, none, some (.int x3), none, none, none, none, none]) (hX0 _ h) ⟨rfl, trivial⟩)
  · refine w_aload_n (v := k) C dX3_placesBeforePass_31 rfl (q := 32) rfl ?_
    refine g_X3_0 C hk lk_X3_24 dX3_placesBeforePass_32 (q := 35) rfl ?_
    refine w_iload (v := x4) C dX3_placesBeforePass_35 rfl (q := 37) rfl ?_
    refine w_callV (val := fun r2 => some (rf (zG Z) r2)) (mem := fun r2 => I) (st1 := fun r2 => [rf (zG Z) r2]) (As := [.int x4]) (st := []) (q := 40) C hR (fun x h => c_X8_itemAt (zl Z) (zG Z) x4 (st_X3_0 hk).2 I h) (st_X3_0 hk).2 mv_X8_itemAt lk_X3_96 rfl (by decide) (fun _ => rfl) (Nat.le_of_ble_eq_true rfl) rfl rfl dX3_placesBeforePass_37 rfl (fun r2 => ?_)
    refine w_gd (fun h3 => ?_)
    refine w_astore C dX3_placesBeforePass_40 (Nat.le_of_ble_eq_true rfl) (L' := [some (rf (zG Z) k), some (rf (zG Z) p1), none, some (.int x3), some (.int x4), some (rf (zG Z) r2), none, none, none]) rfl (q := 42) rfl ?_
    refine w_aload_n (v := k) C dX3_placesBeforePass_42 rfl (q := 43) rfl ?_
    refine g_X3_4 C hk lk_X3_21 dX3_placesBeforePass_43 (q := 46) rfl ?_
    refine w_iload (v := x4) C dX3_placesBeforePass_46 rfl (q := 48) rfl ?_
    refine w_iconst (v := (1)) C dX3_placesBeforePass_48 (by decide) (q := 49) rfl ?_
    refine w_iadd C dX3_placesBeforePass_49 (q := 50) rfl ?_
    refine w_callS (val := fun r4 => some (.int r4)) (mem := fun r4 => I) (st1 := fun r4 => [.int r4]) (As := [rf (zG Z) (k + 4), .int (x4 + 1)]) (st := []) (q := 53) C hR (fun x h => c_X3_at11 (zl Z) (zG Z) (x4 + 1) (st_X3_4 hk).2 I h) mv_X3_at lk_X3_51 rfl (by decide) (fun _ => rfl) (Nat.le_of_ble_eq_true rfl) rfl rfl dX3_placesBeforePass_50 rfl (fun r4 => ?_)
    refine w_istore C dX3_placesBeforePass_53 (Nat.le_of_ble_eq_true rfl) (L' := [some (rf (zG Z) k), some (rf (zG Z) p1), none, some (.int x3), some (.int x4), some (rf (zG Z) r2), some (.int r4), none, none]) rfl (q := 55) rfl ?_
    refine w_aload_n (v := k) C dX3_placesBeforePass_55 rfl (q := 56) rfl ?_
    refine g_X3_1 C hk lk_X3_9 dX3_placesBeforePass_56 (q := 59) rfl ?_
    refine w_iload (v := x4) C dX3_placesBeforePass_59 rfl (q := 61) rfl ?_
    refine w_callS (val := fun r5 => some (.int r5)) (mem := fun r5 => I) (st1 := fun r5 => [.int r5]) (As := [rf (zG Z) (k + 1), .int x4]) (st := []) (q := 64) C hR (fun x h => c_X3_at10 (zl Z) (zG Z) x4 (st_X3_1 hk).2 I h) mv_X3_at lk_X3_51 rfl (by decide) (fun _ => rfl) (Nat.le_of_ble_eq_true rfl) rfl rfl dX3_placesBeforePass_61 rfl (fun r5 => ?_)
    refine w_aload (v := r2) C dX3_placesBeforePass_64 rfl (q := 66) rfl ?_
    refine gN_X2_1 C (iO_of h3) lk_X3_114 dX3_placesBeforePass_66 (q := 69) rfl ?_
    refine w_iconst (v := (1)) C dX3_placesBeforePass_69 (by decide) (q := 70) rfl ?_
    refine w_mmax C hR lk_X3_115 mm_max_s mm_i mm_max_c (by decide) (Nat.le_of_ble_eq_true rfl) rfl dX3_placesBeforePass_70 (q := 73) rfl ?_
    refine w_aload (v := r2) C dX3_placesBeforePass_73 rfl (q := 75) rfl ?_
    refine gN_X2_2 C (iO_of h3) lk_X3_121 dX3_placesBeforePass_75 (q := 78) rfl ?_
    refine w_iload (v := r4) C dX3_placesBeforePass_78 rfl (q := 80) rfl ?_
    refine w_callS (val := fun r6 => some (.int r6)) (mem := fun r6 => I) (st1 := fun r6 => [.int r6]) (As := [.int r5, .int (if I r2 1 < 1 then 1 else I r2 1), .int (I r2 2), .int r4]) (st := []) (q := 83) C hR (fun x h => c_X3_placesBeforeItem (zl Z) (zG Z) r5 (if I r2 1 < 1 then 1 else I r2 1) (I r2 2) r4  I h) mv_X3_placesBeforeItem lk_X3_122 rfl (by decide) (fun _ => rfl) (Nat.le_of_ble_eq_true rfl) rfl rfl dX3_placesBeforePass_80 rfl (fun r6 => ?_)
    refine w_istore C dX3_placesBeforePass_83 (Nat.le_of_ble_eq_true rfl) (L' := [some (rf (zG Z) k), some (rf (zG Z) p1), none, some (.int x3), some (.int x4), some (rf (zG Z) r2), some (.int r4), some (.int r6), none]) rfl (q := 85) rfl ?_
    refine w_aload (v := r2) C dX3_placesBeforePass_85 rfl (q := 87) rfl ?_
    refine gN_X2_1 C (iO_of h3) lk_X3_114 dX3_placesBeforePass_87 (q := 90) rfl ?_
    refine w_if_ne (tgt := 97) (q := 93) C dX3_placesBeforePass_90 (by decide) rfl (fun _ => ?_) (fun _ => ?_)
    · refine w_iconst (v := (1)) C dX3_placesBeforePass_93 (by decide) (q := 94) rfl ?_
      refine w_goto (tgt := 98) C dX3_placesBeforePass_94 (by decide) ?_
      exact WF.less (L' := [some (rf (zG Z) k), some (rf (zG Z) p1), none, some (.int x3), some (.int x4), none, some (.int r4), some (.int r6), none]) (m_X3_placesBeforePass_j98_ok C hR k p1 x3 x4 r4 r6 ((1 : Int32)) hk hp1 I hB hX0) ⟨rfl, rfl, rfl, rfl, rfl, rfl, trivial⟩
    · refine w_iconst (v := (0)) C dX3_placesBeforePass_97 (by decide) (q := 98) rfl ?_
      exact WF.less (L' := [some (rf (zG Z) k), some (rf (zG Z) p1), none, some (.int x3), some (.int x4), none, some (.int r4), some (.int r6), none]) (m_X3_placesBeforePass_j98_ok C hR k p1 x3 x4 r4 r6 ((0 : Int32)) hk hp1 I hB hX0) ⟨rfl, rfl, rfl, rfl, rfl, rfl, trivial⟩
def m_X3_placesBeforePass (k : Nat) (p1 : Nat) (p2 : Int32) (I : Mem) : Option (Int32 × Mem) :=
  Option.bind (m_X3_put11 (k + 4) (I p1 2) p2 I) fun I1 => Option.bind (loopF (fun a => m_X3_placesBeforePass_b22 k p1 a.1 a.2.1 a.2.2) FU ((0 : Int32), (I1 p1 2) - 1, I1)) (fun b8 => some ((b8.1, b8.2)))
set_option maxRecDepth 100000 in
set_option maxHeartbeats 4000000 in
theorem m_X3_placesBeforePass_ok {Z : Zx} {K : (Int32 × Mem) → Prop} (C : Cx Z cX3_placesBeforePass 9 RX3) (hR : RM Z 1 26) (k : Nat) (p1 : Nat) (p2 : Int32) (hk : isO k 3) (hp1 : isO p1 0) (I : Mem) (hK : ∀ y, K (y) → RetI Z cX3_placesBeforePass .int y.1 y.2) : WF Z K (m_X3_placesBeforePass k p1 p2 I) I 0 [some (rf (zG Z) k), some (rf (zG Z) p1), some (.int p2), none, none, none, none, none, none] [] := by
  unfold m_X3_placesBeforePass
  refine w_iconst (v := (0)) C dX3_placesBeforePass_0 (by decide) (q := 1) rfl ?_
  refine w_istore_n C dX3_placesBeforePass_1 (Nat.le_of_ble_eq_true rfl) (L' := [some (rf (zG Z) k), some (rf (zG Z) p1), some (.int p2), some (.int 0), none, none, none, none, none]) rfl (q := 2) rfl ?_
  refine w_aload_n (v := k) C dX3_placesBeforePass_2 rfl (q := 3) rfl ?_
  refine g_X3_4 C hk lk_X3_21 dX3_placesBeforePass_3 (q := 6) rfl ?_
  refine w_aload_n (v := p1) C dX3_placesBeforePass_6 rfl (q := 7) rfl ?_
  refine gN_X0_2 C hp1 lk_X3_108 dX3_placesBeforePass_7 (q := 10) rfl ?_
  refine w_iload_n (v := p2) C dX3_placesBeforePass_10 rfl (q := 11) rfl ?_
  refine w_callS (val := fun I1 => none) (mem := fun I1 => I1) (st1 := fun I1 => []) (As := [rf (zG Z) (k + 4), .int (I p1 2), .int p2]) (st := []) (q := 14) C hR (fun x h => c_X3_put11 (zl Z) (zG Z) (I p1 2) p2 (st_X3_4 hk).2 I h) mv_X3_put lk_X3_43 rfl (by decide) (fun _ => rfl) (Nat.le_of_ble_eq_true rfl) rfl rfl dX3_placesBeforePass_11 rfl (fun I1 => ?_)
  refine w_aload_n (v := p1) C dX3_placesBeforePass_14 rfl (q := 15) rfl ?_
  refine gN_X0_2 C hp1 lk_X3_108 dX3_placesBeforePass_15 (q := 18) rfl ?_
  refine w_iconst (v := (1)) C dX3_placesBeforePass_18 (by decide) (q := 19) rfl ?_
  refine w_isub C dX3_placesBeforePass_19 (q := 20) rfl ?_
  refine w_istore C dX3_placesBeforePass_20 (Nat.le_of_ble_eq_true rfl) (L' := [some (rf (zG Z) k), some (rf (zG Z) p1), some (.int p2), some (.int 0), some (.int ((I1 p1 2) - 1)), none, none, none, none]) rfl (q := 22) rfl ?_
  refine WF.less (L' := [some (rf (zG Z) k), some (rf (zG Z) p1), none, some (.int 0), some (.int ((I1 p1 2) - 1)), none, none, none, none]) (w_loopF (pc := 22) (a := ((0 : Int32), (I1 p1 2) - 1, I1)) (mem := fun a => a.2.2) (lo := fun a => [some (rf (zG Z) k), some (rf (zG Z) p1), none, some (.int a.1), some (.int a.2.1), none, none, none, none]) (E := fun b8 => WM Z b8.2 145 [none, none, none, some (.int b8.1), none, none, none, none, none] []) (fun a => m_X3_placesBeforePass_b22_ok C hR k p1 a.1 a.2.1 hk hp1 a.2.2 (fun _ h => h) (fun _ h => h)) ?_) ⟨rfl, rfl, rfl, rfl, trivial⟩
  intro b8
  refine w_hx ?_
  refine w_iload_n (v := b8.1) C dX3_placesBeforePass_145 rfl (q := 146) rfl ?_
  exact w_iret C (hK _) rfl dX3_placesBeforePass_146
theorem c_X3_placesBeforePass (l : Launch) (G : Gx) {k : Nat} {p1 : Nat} (p2 : Int32) (hk : isO k 3) (hp1 : isO p1 0) (I : Mem) {x : Int32 × Mem} (h : m_X3_placesBeforePass k p1 p2 I = some x) : Ct l G yX3_placesBeforePass cX3_placesBeforePass 9 (some (.int)) 1 26 [rf G k, rf G p1, .int p2] I (some (.int x.1)) x.2 := Ct.of (by decide +kernel) rfl (Nat.le_of_ble_eq_true rfl) ret_i (fun Z hG hl C hR hret => by
  subst hG
  exact m_X3_placesBeforePass_ok (K := fun y => y = x) C hR k p1 p2 hk hp1 I (fun y hy => by subst hy; exact hret) x h rfl)
def m_X3_findAfters_j62 (k : Nat) (p1 : Nat) (p2 : Int32) (x3 : Int32) (y0 : Nat) (y1 : Int32) (y2 : Int32) (I : Mem) : Option ((Int32 × Mem) ⊕ ((Mem))) :=
  Option.bind (m_X3_put10 y0 y1 y2 I) fun I4 => some (.inl (x3 + (-1), I4))
set_option maxRecDepth 100000 in
set_option maxHeartbeats 4000000 in
theorem m_X3_findAfters_j62_ok {Z : Zx} {K : ((Int32 × Mem) ⊕ ((Mem))) → Prop} (C : Cx Z cX3_findAfters 5 RX3) (hR : RM Z 2 54) (k : Nat) (p1 : Nat) (p2 : Int32) (x3 : Int32) (y0 : Nat) (y1 : Int32) (y2 : Int32) (hk : isO k 3) (hp1 : isO p1 0) (hy0 : isA y0 0 10) (I : Mem) (hB : ∀ a, K (.inl a) → WM Z a.2 19 [some (rf (zG Z) k), some (rf (zG Z) p1), some (.int p2), some (.int a.1), none] []) (hX0 : ∀ b, K (.inr (b)) → WM Z b 71 [none, none, none, none, none] []) : WF Z K (m_X3_findAfters_j62 k p1 p2 x3 y0 y1 y2 I) I 62 [some (rf (zG Z) k), some (rf (zG Z) p1), some (.int p2), some (.int x3), none] [.int y2, .int y1, rf (zG Z) y0] := by
  unfold m_X3_findAfters_j62
  refine w_callS (val := fun I4 => none) (mem := fun I4 => I4) (st1 := fun I4 => []) (As := [rf (zG Z) y0, .int y1, .int y2]) (st := []) (q := 65) C hR (fun x h => c_X3_put10 (zl Z) (zG Z) y1 y2 hy0 I h) mv_X3_put lk_X3_43 rfl (by decide) (fun _ => rfl) (Nat.le_of_ble_eq_true rfl) rfl rfl dX3_findAfters_62 rfl (fun I4 => ?_)
  refine w_iinc (v := x3 + (-1)) C dX3_findAfters_65 rfl rfl (L' := [some (rf (zG Z) k), some (rf (zG Z) p1), some (.int p2), some (.int (x3 + (-1))), none]) rfl (q := 68) rfl ?_
  refine w_goto (tgt := 19) C dX3_findAfters_68 (by decide) ?_
  exact w_jmp (fun h => WM.less (L' := [some (rf (zG Z) k), some (rf (zG Z) p1), some (.int p2), some (.int (x3 + (-1))), none]) (hB _ h) ⟨rfl, rfl, rfl, rfl, trivial⟩)
def m_X3_findAfters_b19 (k : Nat) (p1 : Nat) (p2 : Int32) (x3 : Int32) (I : Mem) : Option ((Int32 × Mem) ⊕ ((Mem))) :=
  if x3 < 0 then (some (.inr (I))) else (Option.bind (m_X3_at10 (k + 3) (x3 + 1) I) fun r2 => Option.bind (m_X3_placesBeforePass k p1 r2 I) fun r3 => if x3 < r3.2 p1 3 then (m_X3_findAfters_j62 k p1 p2 x3 (k + 3) x3 r3.1 r3.2) else (m_X3_findAfters_j62 k p1 p2 x3 (k + 3) x3 (r3.1 ||| p2) r3.2))
set_option maxRecDepth 100000 in
set_option maxHeartbeats 4000000 in
theorem m_X3_findAfters_b19_ok {Z : Zx} {K : ((Int32 × Mem) ⊕ ((Mem))) → Prop} (C : Cx Z cX3_findAfters 5 RX3) (hR : RM Z 2 54) (k : Nat) (p1 : Nat) (p2 : Int32) (x3 : Int32) (hk : isO k 3) (hp1 : isO p1 0) (I : Mem) (hB : ∀ a, K (.inl a) → WM Z a.2 19 [some (rf (zG Z) k), some (rf (zG Z) p1), some (.int p2), some (.int a.1), none] []) (hX0 : ∀ b, K (.inr (b)) → WM Z b 71 [none, none, none, none, none] []) : WF Z K (m_X3_findAfters_b19 k p1 p2 x3 I) I 19 [some (rf (zG Z) k), some (rf (zG Z) p1), some (.int p2), some (.int x3), none] [] := by
  unfold m_X3_findAfters_b19
  refine w_iload_n (v := x3) C dX3_findAfters_19 rfl (q := 20) rfl ?_
  refine w_if_lt (tgt := 71) (q := 23) C dX3_findAfters_20 (by decide) rfl (fun _ => ?_) (fun _ => ?_)
  · exact w_jmp (fun h => WM.less (L' := [none, none, none, none, none]) (hX0 _ h) trivial)
  · refine w_aload_n (v := k) C dX3_findAfters_23 rfl (q := 24) rfl ?_
    refine w_aload_n (v := p1) C dX3_findAfters_24 rfl (q := 25) rfl ?_
    refine w_aload_n (v := k) C dX3_findAfters_25 rfl (q := 26) rfl ?_
    refine g_X3_3 C hk lk_X3_18 dX3_findAfters_26 (q := 29) rfl ?_
    refine w_iload_n (v := x3) C dX3_findAfters_29 rfl (q := 30) rfl ?_
    refine w_iconst (v := (1)) C dX3_findAfters_30 (by decide) (q := 31) rfl ?_
    refine w_iadd C dX3_findAfters_31 (q := 32) rfl ?_
    refine w_callS (val := fun r2 => some (.int r2)) (mem := fun r2 => I) (st1 := fun r2 => [.int r2, rf (zG Z) p1, rf (zG Z) k]) (As := [rf (zG Z) (k + 3), .int (x3 + 1)]) (st := [rf (zG Z) p1, rf (zG Z) k]) (q := 35) C hR (fun x h => c_X3_at10 (zl Z) (zG Z) (x3 + 1) (st_X3_3 hk).2 I h) mv_X3_at lk_X3_51 rfl (by decide) (fun _ => rfl) (Nat.le_of_ble_eq_true rfl) rfl rfl dX3_findAfters_32 rfl (fun r2 => ?_)
    refine w_callV (val := fun r3 => some (.int r3.1)) (mem := fun r3 => r3.2) (st1 := fun r3 => [.int r3.1]) (As := [rf (zG Z) p1, .int r2]) (st := []) (q := 38) C hR (fun x h => c_X3_placesBeforePass (zl Z) (zG Z) r2 hk hp1 I h) hk mv_X3_placesBeforePass lk_X3_69 rfl (by decide) (fun _ => rfl) (Nat.le_of_ble_eq_true rfl) rfl rfl dX3_findAfters_35 rfl (fun r3 => ?_)
    refine w_istore C dX3_findAfters_38 (Nat.le_of_ble_eq_true rfl) (L' := [some (rf (zG Z) k), some (rf (zG Z) p1), some (.int p2), some (.int x3), some (.int r3.1)]) rfl (q := 40) rfl ?_
    refine w_aload_n (v := k) C dX3_findAfters_40 rfl (q := 41) rfl ?_
    refine g_X3_3 C hk lk_X3_18 dX3_findAfters_41 (q := 44) rfl ?_
    refine w_iload_n (v := x3) C dX3_findAfters_44 rfl (q := 45) rfl ?_
    refine w_iload_n (v := x3) C dX3_findAfters_45 rfl (q := 46) rfl ?_
    refine w_aload_n (v := p1) C dX3_findAfters_46 rfl (q := 47) rfl ?_
    refine gN_X0_3 C hp1 lk_X3_105 dX3_findAfters_47 (q := 50) rfl ?_
    refine w_icmp_lt (tgt := 60) (q := 53) C dX3_findAfters_50 (by decide) rfl (fun _ => ?_) (fun _ => ?_)
    · refine w_iload (v := r3.1) C dX3_findAfters_60 rfl (q := 62) rfl ?_
      exact WF.less (L' := [some (rf (zG Z) k), some (rf (zG Z) p1), some (.int p2), some (.int x3), none]) (m_X3_findAfters_j62_ok C hR k p1 p2 x3 (k + 3) x3 r3.1 hk hp1 (st_X3_3 hk).2 r3.2 hB hX0) ⟨rfl, rfl, rfl, rfl, trivial⟩
    · refine w_iload (v := r3.1) C dX3_findAfters_53 rfl (q := 55) rfl ?_
      refine w_iload_n (v := p2) C dX3_findAfters_55 rfl (q := 56) rfl ?_
      refine w_ior C dX3_findAfters_56 (q := 57) rfl ?_
      refine w_goto (tgt := 62) C dX3_findAfters_57 (by decide) ?_
      exact WF.less (L' := [some (rf (zG Z) k), some (rf (zG Z) p1), some (.int p2), some (.int x3), none]) (m_X3_findAfters_j62_ok C hR k p1 p2 x3 (k + 3) x3 (r3.1 ||| p2) hk hp1 (st_X3_3 hk).2 r3.2 hB hX0) ⟨rfl, rfl, rfl, rfl, trivial⟩
def m_X3_findAfters (k : Nat) (p1 : Nat) (p2 : Int32) (I : Mem) : Option (Mem) :=
  Option.bind (m_X3_put10 (k + 3) (I p1 4) p2 I) fun I1 => Option.bind (loopF (fun a => m_X3_findAfters_b19 k p1 p2 a.1 a.2) FU ((I1 p1 4) - 1, I1)) (fun b5 => some b5)
set_option maxRecDepth 100000 in
set_option maxHeartbeats 4000000 in
theorem m_X3_findAfters_ok {Z : Zx} {K : Mem → Prop} (C : Cx Z cX3_findAfters 5 RX3) (hR : RM Z 2 54) (k : Nat) (p1 : Nat) (p2 : Int32) (hk : isO k 3) (hp1 : isO p1 0) (I : Mem) (hK : ∀ y, K (y) → RetV Z cX3_findAfters y) : WF Z K (m_X3_findAfters k p1 p2 I) I 0 [some (rf (zG Z) k), some (rf (zG Z) p1), some (.int p2), none, none] [] := by
  unfold m_X3_findAfters
  refine w_aload_n (v := k) C dX3_findAfters_0 rfl (q := 1) rfl ?_
  refine g_X3_3 C hk lk_X3_18 dX3_findAfters_1 (q := 4) rfl ?_
  refine w_aload_n (v := p1) C dX3_findAfters_4 rfl (q := 5) rfl ?_
  refine gN_X0_4 C hp1 lk_X3_63 dX3_findAfters_5 (q := 8) rfl ?_
  refine w_iload_n (v := p2) C dX3_findAfters_8 rfl (q := 9) rfl ?_
  refine w_callS (val := fun I1 => none) (mem := fun I1 => I1) (st1 := fun I1 => []) (As := [rf (zG Z) (k + 3), .int (I p1 4), .int p2]) (st := []) (q := 12) C hR (fun x h => c_X3_put10 (zl Z) (zG Z) (I p1 4) p2 (st_X3_3 hk).2 I h) mv_X3_put lk_X3_43 rfl (by decide) (fun _ => rfl) (Nat.le_of_ble_eq_true rfl) rfl rfl dX3_findAfters_9 rfl (fun I1 => ?_)
  refine w_aload_n (v := p1) C dX3_findAfters_12 rfl (q := 13) rfl ?_
  refine gN_X0_4 C hp1 lk_X3_63 dX3_findAfters_13 (q := 16) rfl ?_
  refine w_iconst (v := (1)) C dX3_findAfters_16 (by decide) (q := 17) rfl ?_
  refine w_isub C dX3_findAfters_17 (q := 18) rfl ?_
  refine w_istore_n C dX3_findAfters_18 (Nat.le_of_ble_eq_true rfl) (L' := [some (rf (zG Z) k), some (rf (zG Z) p1), some (.int p2), some (.int ((I1 p1 4) - 1)), none]) rfl (q := 19) rfl ?_
  refine WF.less (L' := [some (rf (zG Z) k), some (rf (zG Z) p1), some (.int p2), some (.int ((I1 p1 4) - 1)), none]) (w_loopF (pc := 19) (a := ((I1 p1 4) - 1, I1)) (mem := fun a => a.2) (lo := fun a => [some (rf (zG Z) k), some (rf (zG Z) p1), some (.int p2), some (.int a.1), none]) (E := fun b5 => WM Z b5 71 [none, none, none, none, none] []) (fun a => m_X3_findAfters_b19_ok C hR k p1 p2 a.1 hk hp1 a.2 (fun _ h => h) (fun _ h => h)) ?_) ⟨rfl, rfl, rfl, rfl, trivial⟩
  intro b5
  refine w_hx ?_
  exact w_vret C (hK _) dX3_findAfters_71
theorem c_X3_findAfters (l : Launch) (G : Gx) {k : Nat} {p1 : Nat} (p2 : Int32) (hk : isO k 3) (hp1 : isO p1 0) (I : Mem) {x : Mem} (h : m_X3_findAfters k p1 p2 I = some x) : Ct l G yX3_findAfters cX3_findAfters 5 none 2 54 [rf G k, rf G p1, .int p2] I (none) x := Ct.of (by decide +kernel) rfl (Nat.le_of_ble_eq_true rfl) ret_v (fun Z hG hl C hR hret => by
  subst hG
  exact m_X3_findAfters_ok (K := fun y => y = x) C hR k p1 p2 hk hp1 I (fun y hy => by subst hy; exact hret) x h rfl)
def m_X4_bodyCount (k : Nat) (I : Mem) : Option (Int32) :=
  if 2 ≤ I k 2 then (some ((I k 2) - 2)) else (some 0)
set_option maxRecDepth 100000 in
set_option maxHeartbeats 4000000 in
theorem m_X4_bodyCount_ok {Z : Zx} {K : Int32 → Prop} (C : Cx Z cX4_bodyCount 1 RX4) (hR : RM Z 0 0) (k : Nat) (hk : isO k 4) (I : Mem) (hK : ∀ y, K (y) → RetI Z cX4_bodyCount .int y I) : WF Z K (m_X4_bodyCount k I) I 0 [some (rf (zG Z) k)] [] := by
  unfold m_X4_bodyCount
  refine w_aload_n (v := k) C dX4_bodyCount_0 rfl (q := 1) rfl ?_
  refine g_X4_2 C hk lk_X4_22 dX4_bodyCount_1 (q := 4) rfl ?_
  refine w_iconst (v := (2)) C dX4_bodyCount_4 (by decide) (q := 5) rfl ?_
  refine w_icmp_ge (tgt := 12) (q := 8) C dX4_bodyCount_5 (by decide) rfl (fun _ => ?_) (fun _ => ?_)
  · refine w_aload_n (v := k) C dX4_bodyCount_12 rfl (q := 13) rfl ?_
    refine g_X4_2 C hk lk_X4_22 dX4_bodyCount_13 (q := 16) rfl ?_
    refine w_iconst (v := (2)) C dX4_bodyCount_16 (by decide) (q := 17) rfl ?_
    refine w_isub C dX4_bodyCount_17 (q := 18) rfl ?_
    exact w_iret C (hK _) rfl dX4_bodyCount_18
  · refine w_iconst (v := (0)) C dX4_bodyCount_8 (by decide) (q := 9) rfl ?_
    refine w_goto (tgt := 18) C dX4_bodyCount_9 (by decide) ?_
    exact w_iret C (hK _) rfl dX4_bodyCount_18
theorem c_X4_bodyCount (l : Launch) (G : Gx) {k : Nat} (hk : isO k 4) (I : Mem) {x : Int32} (h : m_X4_bodyCount k I = some x) : Ct l G yX4_bodyCount cX4_bodyCount 1 (some (.int)) 0 0 [rf G k] I (some (.int x)) I := Ct.of (by decide +kernel) rfl (Nat.le_of_ble_eq_true rfl) ret_i (fun Z hG hl C hR hret => by
  subst hG
  exact m_X4_bodyCount_ok (K := fun y => y = x) C hR k hk I (fun y hy => by subst hy; exact hret) x h rfl)
def m_X4_bodyAt_j22 (k : Nat) (I : Mem) : Option (Nat) :=
  some (k + 2)
set_option maxRecDepth 100000 in
set_option maxHeartbeats 4000000 in
theorem m_X4_bodyAt_j22_ok {Z : Zx} {K : Nat → Prop} (C : Cx Z cX4_bodyAt 2 RX4) (hR : RM Z 1 21) (k : Nat) (hk : isO k 4) (I : Mem) (hK : ∀ y, K (y) → RetA Z cX4_bodyAt y I) : WF Z K (m_X4_bodyAt_j22 k I) I 22 [some (rf (zG Z) k), none] [] := by
  unfold m_X4_bodyAt_j22
  refine w_aload_n (v := k) C dX4_bodyAt_22 rfl (q := 23) rfl ?_
  refine g_X4_1 C hk lk_X4_18 dX4_bodyAt_23 (q := 26) rfl ?_
  exact w_aret C (hK _) dX4_bodyAt_26
def m_X4_bodyAt (k : Nat) (p1 : Int32) (I : Mem) : Option (Nat) :=
  if p1 < 0 then (m_X4_bodyAt_j22 k I) else (Option.bind (m_X4_bodyCount k I) fun r1 => if r1 ≤ p1 then (m_X4_bodyAt_j22 k I) else (Option.bind (m_X4_at k (p1 + 1) I) fun r2 => gd (iO r2 9) (some r2)))
set_option maxRecDepth 100000 in
set_option maxHeartbeats 4000000 in
theorem m_X4_bodyAt_ok {Z : Zx} {K : Nat → Prop} (C : Cx Z cX4_bodyAt 2 RX4) (hR : RM Z 1 21) (k : Nat) (p1 : Int32) (hk : isO k 4) (I : Mem) (hK : ∀ y, K (y) → RetA Z cX4_bodyAt y I) : WF Z K (m_X4_bodyAt k p1 I) I 0 [some (rf (zG Z) k), some (.int p1)] [] := by
  unfold m_X4_bodyAt
  refine w_iload_n (v := p1) C dX4_bodyAt_0 rfl (q := 1) rfl ?_
  refine w_if_lt (tgt := 22) (q := 4) C dX4_bodyAt_1 (by decide) rfl (fun _ => ?_) (fun _ => ?_)
  · exact WF.less (L' := [some (rf (zG Z) k), none]) (m_X4_bodyAt_j22_ok C hR k hk I hK) ⟨rfl, trivial⟩
  · refine w_iload_n (v := p1) C dX4_bodyAt_4 rfl (q := 5) rfl ?_
    refine w_aload_n (v := k) C dX4_bodyAt_5 rfl (q := 6) rfl ?_
    refine w_callV (val := fun r1 => some (.int r1)) (mem := fun r1 => I) (st1 := fun r1 => [.int r1, .int p1]) (As := []) (st := [.int p1]) (q := 9) C hR (fun x h => c_X4_bodyCount (zl Z) (zG Z)  hk I h) hk mv_X4_bodyCount lk_X4_30 rfl (by decide) (fun _ => rfl) (Nat.le_of_ble_eq_true rfl) rfl rfl dX4_bodyAt_6 rfl (fun r1 => ?_)
    refine w_icmp_ge (tgt := 22) (q := 12) C dX4_bodyAt_9 (by decide) rfl (fun _ => ?_) (fun _ => ?_)
    · exact WF.less (L' := [some (rf (zG Z) k), none]) (m_X4_bodyAt_j22_ok C hR k hk I hK) ⟨rfl, trivial⟩
    · refine w_aload_n (v := k) C dX4_bodyAt_12 rfl (q := 13) rfl ?_
      refine w_iload_n (v := p1) C dX4_bodyAt_13 rfl (q := 14) rfl ?_
      refine w_iconst (v := (1)) C dX4_bodyAt_14 (by decide) (q := 15) rfl ?_
      refine w_iadd C dX4_bodyAt_15 (q := 16) rfl ?_
      refine w_callV (val := fun r2 => some (rf (zG Z) r2)) (mem := fun r2 => I) (st1 := fun r2 => [rf (zG Z) r2]) (As := [.int (p1 + 1)]) (st := []) (q := 19) C hR (fun x h => c_X4_at (zl Z) (zG Z) (p1 + 1) hk I h) hk mv_X4_at lk_X4_26 rfl (by decide) (fun _ => rfl) (Nat.le_of_ble_eq_true rfl) rfl rfl dX4_bodyAt_16 rfl (fun r2 => ?_)
      refine w_gd (fun h3 => ?_)
      refine w_goto (tgt := 26) C dX4_bodyAt_19 (by decide) ?_
      exact w_aret C (hK _) dX4_bodyAt_26
theorem c_X4_bodyAt (l : Launch) (G : Gx) {k : Nat} (p1 : Int32) (hk : isO k 4) (I : Mem) {x : Nat} (h : m_X4_bodyAt k p1 I = some x) : Ct l G yX4_bodyAt cX4_bodyAt 2 (some (.object "Segmentry$Segment")) 1 21 [rf G k, .int p1] I (some (rf G x)) I := Ct.of (by decide +kernel) rfl (Nat.le_of_ble_eq_true rfl) ret_a (fun Z hG hl C hR hret => by
  subst hG
  exact m_X4_bodyAt_ok (K := fun y => y = x) C hR k p1 hk I (fun y hy => by subst hy; exact hret _ rfl) x h rfl)
def m_X9_mark (k : Nat) (I : Mem) : Option (Int32) :=
  gd (okc (I k 3)) (some (I k 3))
set_option maxRecDepth 100000 in
set_option maxHeartbeats 4000000 in
theorem m_X9_mark_ok {Z : Zx} {K : Int32 → Prop} (C : Cx Z cX9_mark 1 RX9) (hR : RM Z 0 0) (k : Nat) (hk : isO k 9) (I : Mem) (hK : ∀ y, K (y) → RetI Z cX9_mark .char y I) : WF Z K (m_X9_mark k I) I 0 [some (rf (zG Z) k)] [] := by
  unfold m_X9_mark
  refine w_aload_n (v := k) C dX9_mark_0 rfl (q := 1) rfl ?_
  refine g_X9_3 C hk lk_X9_19 dX9_mark_1 (q := 4) rfl ?_
  refine w_gd (fun h1 => ?_)
  exact w_iret C (hK _) (okc_n h1).1 dX9_mark_4
theorem c_X9_mark (l : Launch) (G : Gx) {k : Nat} (hk : isO k 9) (I : Mem) {x : Int32} (h : m_X9_mark k I = some x) : Ct l G yX9_mark cX9_mark 1 (some (.char)) 0 0 [rf G k] I (some (.int x)) I := Ct.of (by decide +kernel) rfl (Nat.le_of_ble_eq_true rfl) ret_i (fun Z hG hl C hR hret => by
  subst hG
  exact m_X9_mark_ok (K := fun y => y = x) C hR k hk I (fun y hy => by subst hy; exact hret) x h rfl)
def m_X3_findMarks_j57 (k : Nat) (p1 : Nat) (x2 : Int32) (x3 : Int32) (x4 : Int32) (I : Mem) : Option ((Int32 × Int32) ⊕ ((Int32))) :=
  some (.inl (x3, x4 + 1))
set_option maxRecDepth 100000 in
set_option maxHeartbeats 4000000 in
theorem m_X3_findMarks_j57_ok {Z : Zx} {K : ((Int32 × Int32) ⊕ ((Int32))) → Prop} (C : Cx Z cX3_findMarks 5 RX3) (hR : RM Z 2 42) (k : Nat) (p1 : Nat) (x2 : Int32) (x3 : Int32) (x4 : Int32) (hk : isO k 3) (hp1 : isO p1 4) (I : Mem) (hB : ∀ a, K (.inl a) → WM Z I 18 [some (rf (zG Z) k), some (rf (zG Z) p1), some (.int x2), some (.int a.1), some (.int a.2)] []) (hX0 : ∀ b, K (.inr (b)) → WM Z I 63 [some (rf (zG Z) k), some (rf (zG Z) p1), some (.int x2), some (.int b), none] []) : WF Z K (m_X3_findMarks_j57 k p1 x2 x3 x4 I) I 57 [some (rf (zG Z) k), some (rf (zG Z) p1), some (.int x2), some (.int x3), some (.int x4)] [] := by
  unfold m_X3_findMarks_j57
  refine w_iinc (v := x4 + 1) C dX3_findMarks_57 rfl rfl (L' := [some (rf (zG Z) k), some (rf (zG Z) p1), some (.int x2), some (.int x3), some (.int (x4 + 1))]) rfl (q := 60) rfl ?_
  refine w_goto (tgt := 18) C dX3_findMarks_60 (by decide) ?_
  exact w_jmp (fun h => WM.less (L' := [some (rf (zG Z) k), some (rf (zG Z) p1), some (.int x2), some (.int x3), some (.int (x4 + 1))]) (hB _ h) ⟨rfl, rfl, rfl, rfl, rfl, trivial⟩)
def m_X3_findMarks_b18 (k : Nat) (p1 : Nat) (x2 : Int32) (x3 : Int32) (x4 : Int32) (I : Mem) : Option ((Int32 × Int32) ⊕ ((Int32))) :=
  Option.bind (m_X4_bodyCount p1 I) fun r2 => if r2 ≤ x4 then (some (.inr (x3))) else (Option.bind (m_X4_bodyAt p1 x4 I) fun r3 => gd (iO r3 9) (Option.bind (m_X9_mark r3 I) fun r5 => Option.bind (m_X8_itemAt (k - 32) x2 I) fun r6 => gd (iO r6 2) (if r5 = I r6 0 then (m_X3_findMarks_j57 k p1 x2 (x3 ||| (((1 : Int32)) <<< (x4 &&& 31))) x4 I) else (m_X3_findMarks_j57 k p1 x2 x3 x4 I))))
set_option maxRecDepth 100000 in
set_option maxHeartbeats 4000000 in
theorem m_X3_findMarks_b18_ok {Z : Zx} {K : ((Int32 × Int32) ⊕ ((Int32))) → Prop} (C : Cx Z cX3_findMarks 5 RX3) (hR : RM Z 2 42) (k : Nat) (p1 : Nat) (x2 : Int32) (x3 : Int32) (x4 : Int32) (hk : isO k 3) (hp1 : isO p1 4) (I : Mem) (hB : ∀ a, K (.inl a) → WM Z I 18 [some (rf (zG Z) k), some (rf (zG Z) p1), some (.int x2), some (.int a.1), some (.int a.2)] []) (hX0 : ∀ b, K (.inr (b)) → WM Z I 63 [some (rf (zG Z) k), some (rf (zG Z) p1), some (.int x2), some (.int b), none] []) : WF Z K (m_X3_findMarks_b18 k p1 x2 x3 x4 I) I 18 [some (rf (zG Z) k), some (rf (zG Z) p1), some (.int x2), some (.int x3), some (.int x4)] [] := by
  unfold m_X3_findMarks_b18
  refine w_iload (v := x4) C dX3_findMarks_18 rfl (q := 20) rfl ?_
  refine w_aload_n (v := p1) C dX3_findMarks_20 rfl (q := 21) rfl ?_
  refine w_callV (val := fun r2 => some (.int r2)) (mem := fun r2 => I) (st1 := fun r2 => [.int r2, .int x4]) (As := []) (st := [.int x4]) (q := 24) C hR (fun x h => c_X4_bodyCount (zl Z) (zG Z)  hp1 I h) hp1 mv_X4_bodyCount lk_X3_38 rfl (by decide) (fun _ => rfl) (Nat.le_of_ble_eq_true rfl) rfl rfl dX3_findMarks_21 rfl (fun r2 => ?_)
  refine w_icmp_ge (tgt := 63) (q := 27) C dX3_findMarks_24 (by decide) rfl (fun _ => ?_) (fun _ => ?_)
  · exact w_jmp (fun h => WM.less (L' := [some (rf (zG Z) k), some (rf (zG Z) p1), some (.int x2), some (.int x3), none]) (hX0 _ h) ⟨rfl, rfl, rfl, rfl, trivial⟩)
  · refine w_aload_n (v := p1) C dX3_findMarks_27 rfl (q := 28) rfl ?_
    refine w_iload (v := x4) C dX3_findMarks_28 rfl (q := 30) rfl ?_
    refine w_callV (val := fun r3 => some (rf (zG Z) r3)) (mem := fun r3 => I) (st1 := fun r3 => [rf (zG Z) r3]) (As := [.int x4]) (st := []) (q := 33) C hR (fun x h => c_X4_bodyAt (zl Z) (zG Z) x4 hp1 I h) hp1 mv_X4_bodyAt lk_X3_86 rfl (by decide) (fun _ => rfl) (Nat.le_of_ble_eq_true rfl) rfl rfl dX3_findMarks_30 rfl (fun r3 => ?_)
    refine w_gd (fun h4 => ?_)
    refine w_callV (val := fun r5 => some (.int r5)) (mem := fun r5 => I) (st1 := fun r5 => [.int r5]) (As := []) (st := []) (q := 36) C hR (fun x h => c_X9_mark (zl Z) (zG Z)  (iO_of h4) I h) (iO_of h4) mv_X9_mark lk_X3_90 rfl (by decide) (fun _ => rfl) (Nat.le_of_ble_eq_true rfl) rfl rfl dX3_findMarks_33 rfl (fun r5 => ?_)
    refine w_aload_n (v := k) C dX3_findMarks_36 rfl (q := 37) rfl ?_
    refine g_X3_0 C hk lk_X3_24 dX3_findMarks_37 (q := 40) rfl ?_
    refine w_iload_n (v := x2) C dX3_findMarks_40 rfl (q := 41) rfl ?_
    refine w_callV (val := fun r6 => some (rf (zG Z) r6)) (mem := fun r6 => I) (st1 := fun r6 => [rf (zG Z) r6, .int r5]) (As := [.int x2]) (st := [.int r5]) (q := 44) C hR (fun x h => c_X8_itemAt (zl Z) (zG Z) x2 (st_X3_0 hk).2 I h) (st_X3_0 hk).2 mv_X8_itemAt lk_X3_96 rfl (by decide) (fun _ => rfl) (Nat.le_of_ble_eq_true rfl) rfl rfl dX3_findMarks_41 rfl (fun r6 => ?_)
    refine w_gd (fun h7 => ?_)
    refine gN_X2_0 C (iO_of h7) lk_X3_100 dX3_findMarks_44 (q := 47) rfl ?_
    refine w_icmp_ne (tgt := 57) (q := 50) C dX3_findMarks_47 (by decide) rfl (fun _ => ?_) (fun _ => ?_)
    · refine w_iload_n (v := x3) C dX3_findMarks_50 rfl (q := 51) rfl ?_
      refine w_iconst (v := (1)) C dX3_findMarks_51 (by decide) (q := 52) rfl ?_
      refine w_iload (v := x4) C dX3_findMarks_52 rfl (q := 54) rfl ?_
      refine w_ishl C dX3_findMarks_54 (q := 55) rfl ?_
      refine w_ior C dX3_findMarks_55 (q := 56) rfl ?_
      refine w_istore_n C dX3_findMarks_56 (Nat.le_of_ble_eq_true rfl) (L' := [some (rf (zG Z) k), some (rf (zG Z) p1), some (.int x2), some (.int (x3 ||| (((1 : Int32)) <<< (x4 &&& 31)))), some (.int x4)]) rfl (q := 57) rfl ?_
      exact WF.less (L' := [some (rf (zG Z) k), some (rf (zG Z) p1), some (.int x2), some (.int (x3 ||| (((1 : Int32)) <<< (x4 &&& 31)))), some (.int x4)]) (m_X3_findMarks_j57_ok C hR k p1 x2 (x3 ||| (((1 : Int32)) <<< (x4 &&& 31))) x4 hk hp1 I hB hX0) ⟨rfl, rfl, rfl, rfl, rfl, trivial⟩
    · exact WF.less (L' := [some (rf (zG Z) k), some (rf (zG Z) p1), some (.int x2), some (.int x3), some (.int x4)]) (m_X3_findMarks_j57_ok C hR k p1 x2 x3 x4 hk hp1 I hB hX0) ⟨rfl, rfl, rfl, rfl, rfl, trivial⟩
def m_X3_findMarks_b2 (k : Nat) (p1 : Nat) (x2 : Int32) (I : Mem) : Option ((Int32 × Mem) ⊕ ((Mem))) :=
  Option.bind (m_X8_itemCount (k - 32) I) fun r1 => if r1 ≤ x2 then (some (.inr (I))) else (Option.bind (loopF (fun a => m_X3_findMarks_b18 k p1 x2 a.1 a.2 I) FU ((0 : Int32), (0 : Int32))) (fun b8 => Option.bind (m_X3_put10 (k + 1) x2 b8 I) fun I9 => some (.inl (x2 + 1, I9))))
set_option maxRecDepth 100000 in
set_option maxHeartbeats 4000000 in
theorem m_X3_findMarks_b2_ok {Z : Zx} {K : ((Int32 × Mem) ⊕ ((Mem))) → Prop} (C : Cx Z cX3_findMarks 5 RX3) (hR : RM Z 2 42) (k : Nat) (p1 : Nat) (x2 : Int32) (hk : isO k 3) (hp1 : isO p1 4) (I : Mem) (hB : ∀ a, K (.inl a) → WM Z a.2 2 [some (rf (zG Z) k), some (rf (zG Z) p1), some (.int a.1), none, none] []) (hX0 : ∀ b, K (.inr (b)) → WM Z b 78 [none, none, none, none, none] []) : WF Z K (m_X3_findMarks_b2 k p1 x2 I) I 2 [some (rf (zG Z) k), some (rf (zG Z) p1), some (.int x2), none, none] [] := by
  unfold m_X3_findMarks_b2
  refine w_iload_n (v := x2) C dX3_findMarks_2 rfl (q := 3) rfl ?_
  refine w_aload_n (v := k) C dX3_findMarks_3 rfl (q := 4) rfl ?_
  refine g_X3_0 C hk lk_X3_24 dX3_findMarks_4 (q := 7) rfl ?_
  refine w_callV (val := fun r1 => some (.int r1)) (mem := fun r1 => I) (st1 := fun r1 => [.int r1, .int x2]) (As := []) (st := [.int x2]) (q := 10) C hR (fun x h => c_X8_itemCount (zl Z) (zG Z)  (st_X3_0 hk).2 I h) (st_X3_0 hk).2 mv_X8_itemCount lk_X3_83 rfl (by decide) (fun _ => rfl) (Nat.le_of_ble_eq_true rfl) rfl rfl dX3_findMarks_7 rfl (fun r1 => ?_)
  refine w_icmp_ge (tgt := 78) (q := 13) C dX3_findMarks_10 (by decide) rfl (fun _ => ?_) (fun _ => ?_)
  · exact w_jmp (fun h => WM.less (L' := [none, none, none, none, none]) (hX0 _ h) trivial)
  · refine w_iconst (v := (0)) C dX3_findMarks_13 (by decide) (q := 14) rfl ?_
    refine w_istore_n C dX3_findMarks_14 (Nat.le_of_ble_eq_true rfl) (L' := [some (rf (zG Z) k), some (rf (zG Z) p1), some (.int x2), some (.int 0), none]) rfl (q := 15) rfl ?_
    refine w_iconst (v := (0)) C dX3_findMarks_15 (by decide) (q := 16) rfl ?_
    refine w_istore C dX3_findMarks_16 (Nat.le_of_ble_eq_true rfl) (L' := [some (rf (zG Z) k), some (rf (zG Z) p1), some (.int x2), some (.int 0), some (.int 0)]) rfl (q := 18) rfl ?_
    refine WF.less (L' := [some (rf (zG Z) k), some (rf (zG Z) p1), some (.int x2), some (.int 0), some (.int 0)]) (w_loopF (pc := 18) (a := ((0 : Int32), (0 : Int32))) (mem := fun a => I) (lo := fun a => [some (rf (zG Z) k), some (rf (zG Z) p1), some (.int x2), some (.int a.1), some (.int a.2)]) (E := fun b8 => WM Z I 63 [some (rf (zG Z) k), some (rf (zG Z) p1), some (.int x2), some (.int b8), none] []) (fun a => m_X3_findMarks_b18_ok C hR k p1 x2 a.1 a.2 hk hp1 I (fun _ h => h) (fun _ h => h)) ?_) ⟨rfl, rfl, rfl, rfl, rfl, trivial⟩
    intro b8
    refine w_hx ?_
    refine w_aload_n (v := k) C dX3_findMarks_63 rfl (q := 64) rfl ?_
    refine g_X3_1 C hk lk_X3_9 dX3_findMarks_64 (q := 67) rfl ?_
    refine w_iload_n (v := x2) C dX3_findMarks_67 rfl (q := 68) rfl ?_
    refine w_iload_n (v := b8) C dX3_findMarks_68 rfl (q := 69) rfl ?_
    refine w_callS (val := fun I9 => none) (mem := fun I9 => I9) (st1 := fun I9 => []) (As := [rf (zG Z) (k + 1), .int x2, .int b8]) (st := []) (q := 72) C hR (fun x h => c_X3_put10 (zl Z) (zG Z) x2 b8 (st_X3_1 hk).2 I h) mv_X3_put lk_X3_43 rfl (by decide) (fun _ => rfl) (Nat.le_of_ble_eq_true rfl) rfl rfl dX3_findMarks_69 rfl (fun I9 => ?_)
    refine w_iinc (v := x2 + 1) C dX3_findMarks_72 rfl rfl (L' := [some (rf (zG Z) k), some (rf (zG Z) p1), some (.int (x2 + 1)), some (.int b8), none]) rfl (q := 75) rfl ?_
    refine w_goto (tgt := 2) C dX3_findMarks_75 (by decide) ?_
    exact w_jmp (fun h => WM.less (L' := [some (rf (zG Z) k), some (rf (zG Z) p1), some (.int (x2 + 1)), none, none]) (hB _ h) ⟨rfl, rfl, rfl, trivial⟩)
def m_X3_findMarks (k : Nat) (p1 : Nat) (I : Mem) : Option (Mem) :=
  Option.bind (loopF (fun a => m_X3_findMarks_b2 k p1 a.1 a.2) FU ((0 : Int32), I)) (fun b10 => some b10)
set_option maxRecDepth 100000 in
set_option maxHeartbeats 4000000 in
theorem m_X3_findMarks_ok {Z : Zx} {K : Mem → Prop} (C : Cx Z cX3_findMarks 5 RX3) (hR : RM Z 2 42) (k : Nat) (p1 : Nat) (hk : isO k 3) (hp1 : isO p1 4) (I : Mem) (hK : ∀ y, K (y) → RetV Z cX3_findMarks y) : WF Z K (m_X3_findMarks k p1 I) I 0 [some (rf (zG Z) k), some (rf (zG Z) p1), none, none, none] [] := by
  unfold m_X3_findMarks
  refine w_iconst (v := (0)) C dX3_findMarks_0 (by decide) (q := 1) rfl ?_
  refine w_istore_n C dX3_findMarks_1 (Nat.le_of_ble_eq_true rfl) (L' := [some (rf (zG Z) k), some (rf (zG Z) p1), some (.int 0), none, none]) rfl (q := 2) rfl ?_
  refine WF.less (L' := [some (rf (zG Z) k), some (rf (zG Z) p1), some (.int 0), none, none]) (w_loopF (pc := 2) (a := ((0 : Int32), I)) (mem := fun a => a.2) (lo := fun a => [some (rf (zG Z) k), some (rf (zG Z) p1), some (.int a.1), none, none]) (E := fun b10 => WM Z b10 78 [none, none, none, none, none] []) (fun a => m_X3_findMarks_b2_ok C hR k p1 a.1 hk hp1 a.2 (fun _ h => h) (fun _ h => h)) ?_) ⟨rfl, rfl, rfl, trivial⟩
  intro b10
  refine w_hx ?_
  exact w_vret C (hK _) dX3_findMarks_78
theorem c_X3_findMarks (l : Launch) (G : Gx) {k : Nat} {p1 : Nat} (hk : isO k 3) (hp1 : isO p1 4) (I : Mem) {x : Mem} (h : m_X3_findMarks k p1 I = some x) : Ct l G yX3_findMarks cX3_findMarks 5 none 2 42 [rf G k, rf G p1] I (none) x := Ct.of (by decide +kernel) rfl (Nat.le_of_ble_eq_true rfl) ret_v (fun Z hG hl C hR hret => by
  subst hG
  exact m_X3_findMarks_ok (K := fun y => y = x) C hR k p1 hk hp1 I (fun y hy => by subst hy; exact hret) x h rfl)
def m_X8_entryCount (k : Nat) (I : Mem) : Option (Int32) :=
  some (I k 5)
set_option maxRecDepth 100000 in
set_option maxHeartbeats 4000000 in
theorem m_X8_entryCount_ok {Z : Zx} {K : Int32 → Prop} (C : Cx Z cX8_entryCount 1 RX8) (hR : RM Z 0 0) (k : Nat) (hk : isO k 8) (I : Mem) (hK : ∀ y, K (y) → RetI Z cX8_entryCount .int y I) : WF Z K (m_X8_entryCount k I) I 0 [some (rf (zG Z) k)] [] := by
  unfold m_X8_entryCount
  refine w_aload_n (v := k) C dX8_entryCount_0 rfl (q := 1) rfl ?_
  refine g_X8_5 C hk lk_X8_37 dX8_entryCount_1 (q := 4) rfl ?_
  exact w_iret C (hK _) rfl dX8_entryCount_4
theorem c_X8_entryCount (l : Launch) (G : Gx) {k : Nat} (hk : isO k 8) (I : Mem) {x : Int32} (h : m_X8_entryCount k I = some x) : Ct l G yX8_entryCount cX8_entryCount 1 (some (.int)) 0 0 [rf G k] I (some (.int x)) I := Ct.of (by decide +kernel) rfl (Nat.le_of_ble_eq_true rfl) ret_i (fun Z hG hl C hR hret => by
  subst hG
  exact m_X8_entryCount_ok (K := fun y => y = x) C hR k hk I (fun y hy => by subst hy; exact hret) x h rfl)
def m_X3_canDivide_b31 (k : Nat) (x3 : Int32) (I : Mem) : Option ((Int32 × Mem) ⊕ ((Mem))) :=
  if x3 < 0 then (some (.inr (I))) else (Option.bind (m_X8_entryAt (k - 32) x3 I) fun r5 => gd (iO r5 0) (Option.bind (m_X3_at12 (k + 2) (x3 + 1) I) fun r7 => Option.bind (m_X3_findAfters k r5 r7 I) fun I8 => Option.bind (m_X3_at10 (k + 3) ((0 : Int32)) I8) fun r9 => Option.bind (m_X3_put12 (k + 2) x3 r9 I8) fun I10 => some (.inl (x3 + (-1), I10))))
set_option maxRecDepth 100000 in
set_option maxHeartbeats 4000000 in
theorem m_X3_canDivide_b31_ok {Z : Zx} {K : ((Int32 × Mem) ⊕ ((Mem))) → Prop} (C : Cx Z cX3_canDivide 4 RX3) (hR : RM Z 3 78) (k : Nat) (x3 : Int32) (hk : isO k 3) (I : Mem) (hB : ∀ a, K (.inl a) → WM Z a.2 31 [some (rf (zG Z) k), none, none, some (.int a.1)] []) (hX0 : ∀ b, K (.inr (b)) → WM Z b 79 [some (rf (zG Z) k), none, none, none] []) : WF Z K (m_X3_canDivide_b31 k x3 I) I 31 [some (rf (zG Z) k), none, none, some (.int x3)] [] := by
  unfold m_X3_canDivide_b31
  refine w_iload_n (v := x3) C dX3_canDivide_31 rfl (q := 32) rfl ?_
  refine w_if_lt (tgt := 79) (q := 35) C dX3_canDivide_32 (by decide) rfl (fun _ => ?_) (fun _ => ?_)
  · exact w_jmp (fun h => WM.less (L' := [some (rf (zG Z) k), none, none, none]) (hX0 _ h) ⟨rfl, trivial⟩)
  · refine w_aload_n (v := k) C dX3_canDivide_35 rfl (q := 36) rfl ?_
    refine w_aload_n (v := k) C dX3_canDivide_36 rfl (q := 37) rfl ?_
    refine g_X3_0 C hk lk_X3_24 dX3_canDivide_37 (q := 40) rfl ?_
    refine w_iload_n (v := x3) C dX3_canDivide_40 rfl (q := 41) rfl ?_
    refine w_callV (val := fun r5 => some (rf (zG Z) r5)) (mem := fun r5 => I) (st1 := fun r5 => [rf (zG Z) r5, rf (zG Z) k]) (As := [.int x3]) (st := [rf (zG Z) k]) (q := 44) C hR (fun x h => c_X8_entryAt (zl Z) (zG Z) x3 (st_X3_0 hk).2 I h) (st_X3_0 hk).2 mv_X8_entryAt lk_X3_47 rfl (by decide) (fun _ => rfl) (Nat.le_of_ble_eq_true rfl) rfl rfl dX3_canDivide_41 rfl (fun r5 => ?_)
    refine w_gd (fun h6 => ?_)
    refine w_aload_n (v := k) C dX3_canDivide_44 rfl (q := 45) rfl ?_
    refine g_X3_2 C hk lk_X3_15 dX3_canDivide_45 (q := 48) rfl ?_
    refine w_iload_n (v := x3) C dX3_canDivide_48 rfl (q := 49) rfl ?_
    refine w_iconst (v := (1)) C dX3_canDivide_49 (by decide) (q := 50) rfl ?_
    refine w_iadd C dX3_canDivide_50 (q := 51) rfl ?_
    refine w_callS (val := fun r7 => some (.int r7)) (mem := fun r7 => I) (st1 := fun r7 => [.int r7, rf (zG Z) r5, rf (zG Z) k]) (As := [rf (zG Z) (k + 2), .int (x3 + 1)]) (st := [rf (zG Z) r5, rf (zG Z) k]) (q := 54) C hR (fun x h => c_X3_at12 (zl Z) (zG Z) (x3 + 1) (st_X3_2 hk).2 I h) mv_X3_at lk_X3_51 rfl (by decide) (fun _ => rfl) (Nat.le_of_ble_eq_true rfl) rfl rfl dX3_canDivide_51 rfl (fun r7 => ?_)
    refine w_callV (val := fun I8 => none) (mem := fun I8 => I8) (st1 := fun I8 => []) (As := [rf (zG Z) r5, .int r7]) (st := []) (q := 57) C hR (fun x h => c_X3_findAfters (zl Z) (zG Z) r7 hk (iO_of h6) I h) hk mv_X3_findAfters lk_X3_55 rfl (by decide) (fun _ => rfl) (Nat.le_of_ble_eq_true rfl) rfl rfl dX3_canDivide_54 rfl (fun I8 => ?_)
    refine w_aload_n (v := k) C dX3_canDivide_57 rfl (q := 58) rfl ?_
    refine g_X3_2 C hk lk_X3_15 dX3_canDivide_58 (q := 61) rfl ?_
    refine w_iload_n (v := x3) C dX3_canDivide_61 rfl (q := 62) rfl ?_
    refine w_aload_n (v := k) C dX3_canDivide_62 rfl (q := 63) rfl ?_
    refine g_X3_3 C hk lk_X3_18 dX3_canDivide_63 (q := 66) rfl ?_
    refine w_iconst (v := (0)) C dX3_canDivide_66 (by decide) (q := 67) rfl ?_
    refine w_callS (val := fun r9 => some (.int r9)) (mem := fun r9 => I8) (st1 := fun r9 => [.int r9, .int x3, rf (zG Z) (k + 2)]) (As := [rf (zG Z) (k + 3), .int 0]) (st := [.int x3, rf (zG Z) (k + 2)]) (q := 70) C hR (fun x h => c_X3_at10 (zl Z) (zG Z) ((0 : Int32)) (st_X3_3 hk).2 I8 h) mv_X3_at lk_X3_51 rfl (by decide) (fun _ => rfl) (Nat.le_of_ble_eq_true rfl) rfl rfl dX3_canDivide_67 rfl (fun r9 => ?_)
    refine w_callS (val := fun I10 => none) (mem := fun I10 => I10) (st1 := fun I10 => []) (As := [rf (zG Z) (k + 2), .int x3, .int r9]) (st := []) (q := 73) C hR (fun x h => c_X3_put12 (zl Z) (zG Z) x3 r9 (st_X3_2 hk).2 I8 h) mv_X3_put lk_X3_43 rfl (by decide) (fun _ => rfl) (Nat.le_of_ble_eq_true rfl) rfl rfl dX3_canDivide_70 rfl (fun I10 => ?_)
    refine w_iinc (v := x3 + (-1)) C dX3_canDivide_73 rfl rfl (L' := [some (rf (zG Z) k), none, none, some (.int (x3 + (-1)))]) rfl (q := 76) rfl ?_
    refine w_goto (tgt := 31) C dX3_canDivide_76 (by decide) ?_
    exact w_jmp (fun h => WM.less (L' := [some (rf (zG Z) k), none, none, some (.int (x3 + (-1)))]) (hB _ h) ⟨rfl, rfl, trivial⟩)
def m_X3_canDivide (k : Nat) (p1 : Nat) (I : Mem) : Option (Int32 × Mem) :=
  Option.bind (m_X3_findMarks k p1 I) fun I1 => Option.bind (m_X8_entryCount (k - 32) I1) fun r2 => Option.bind (m_X4_bodyCount p1 I1) fun r3 => Option.bind (m_X3_put12 (k + 2) r2 (((1 : Int32)) <<< (r3 &&& 31)) I1) fun I4 => Option.bind (loopF (fun a => m_X3_canDivide_b31 k a.1 a.2) FU (r2 - 1, I4)) (fun b11 => Option.bind (m_X3_at12 (k + 2) ((0 : Int32)) b11) fun r12 => Option.bind (m_X3_contains r12 ((0 : Int32)) b11) fun r13 => gd (okz r13) (some ((r13, b11))))
set_option maxRecDepth 100000 in
set_option maxHeartbeats 4000000 in
theorem m_X3_canDivide_ok {Z : Zx} {K : (Int32 × Mem) → Prop} (C : Cx Z cX3_canDivide 4 RX3) (hR : RM Z 3 78) (k : Nat) (p1 : Nat) (hk : isO k 3) (hp1 : isO p1 4) (I : Mem) (hK : ∀ y, K (y) → RetI Z cX3_canDivide .boolean y.1 y.2) : WF Z K (m_X3_canDivide k p1 I) I 0 [some (rf (zG Z) k), some (rf (zG Z) p1), none, none] [] := by
  unfold m_X3_canDivide
  refine w_aload_n (v := k) C dX3_canDivide_0 rfl (q := 1) rfl ?_
  refine w_aload_n (v := p1) C dX3_canDivide_1 rfl (q := 2) rfl ?_
  refine w_callV (val := fun I1 => none) (mem := fun I1 => I1) (st1 := fun I1 => []) (As := [rf (zG Z) p1]) (st := []) (q := 5) C hR (fun x h => c_X3_findMarks (zl Z) (zG Z)  hk hp1 I h) hk mv_X3_findMarks lk_X3_28 rfl (by decide) (fun _ => rfl) (Nat.le_of_ble_eq_true rfl) rfl rfl dX3_canDivide_2 rfl (fun I1 => ?_)
  refine w_aload_n (v := k) C dX3_canDivide_5 rfl (q := 6) rfl ?_
  refine g_X3_0 C hk lk_X3_24 dX3_canDivide_6 (q := 9) rfl ?_
  refine w_callV (val := fun r2 => some (.int r2)) (mem := fun r2 => I1) (st1 := fun r2 => [.int r2]) (As := []) (st := []) (q := 12) C hR (fun x h => c_X8_entryCount (zl Z) (zG Z)  (st_X3_0 hk).2 I1 h) (st_X3_0 hk).2 mv_X8_entryCount lk_X3_32 rfl (by decide) (fun _ => rfl) (Nat.le_of_ble_eq_true rfl) rfl rfl dX3_canDivide_9 rfl (fun r2 => ?_)
  refine w_istore_n C dX3_canDivide_12 (Nat.le_of_ble_eq_true rfl) (L' := [some (rf (zG Z) k), some (rf (zG Z) p1), some (.int r2), none]) rfl (q := 13) rfl ?_
  refine w_aload_n (v := k) C dX3_canDivide_13 rfl (q := 14) rfl ?_
  refine g_X3_2 C hk lk_X3_15 dX3_canDivide_14 (q := 17) rfl ?_
  refine w_iload_n (v := r2) C dX3_canDivide_17 rfl (q := 18) rfl ?_
  refine w_iconst (v := (1)) C dX3_canDivide_18 (by decide) (q := 19) rfl ?_
  refine w_aload_n (v := p1) C dX3_canDivide_19 rfl (q := 20) rfl ?_
  refine w_callV (val := fun r3 => some (.int r3)) (mem := fun r3 => I1) (st1 := fun r3 => [.int r3, .int 1, .int r2, rf (zG Z) (k + 2)]) (As := []) (st := [.int 1, .int r2, rf (zG Z) (k + 2)]) (q := 23) C hR (fun x h => c_X4_bodyCount (zl Z) (zG Z)  hp1 I1 h) hp1 mv_X4_bodyCount lk_X3_38 rfl (by decide) (fun _ => rfl) (Nat.le_of_ble_eq_true rfl) rfl rfl dX3_canDivide_20 rfl (fun r3 => ?_)
  refine w_ishl C dX3_canDivide_23 (q := 24) rfl ?_
  refine w_callS (val := fun I4 => none) (mem := fun I4 => I4) (st1 := fun I4 => []) (As := [rf (zG Z) (k + 2), .int r2, .int (((1 : Int32)) <<< (r3 &&& 31))]) (st := []) (q := 27) C hR (fun x h => c_X3_put12 (zl Z) (zG Z) r2 (((1 : Int32)) <<< (r3 &&& 31)) (st_X3_2 hk).2 I1 h) mv_X3_put lk_X3_43 rfl (by decide) (fun _ => rfl) (Nat.le_of_ble_eq_true rfl) rfl rfl dX3_canDivide_24 rfl (fun I4 => ?_)
  refine w_iload_n (v := r2) C dX3_canDivide_27 rfl (q := 28) rfl ?_
  refine w_iconst (v := (1)) C dX3_canDivide_28 (by decide) (q := 29) rfl ?_
  refine w_isub C dX3_canDivide_29 (q := 30) rfl ?_
  refine w_istore_n C dX3_canDivide_30 (Nat.le_of_ble_eq_true rfl) (L' := [some (rf (zG Z) k), some (rf (zG Z) p1), some (.int r2), some (.int (r2 - 1))]) rfl (q := 31) rfl ?_
  refine WF.less (L' := [some (rf (zG Z) k), none, none, some (.int (r2 - 1))]) (w_loopF (pc := 31) (a := (r2 - 1, I4)) (mem := fun a => a.2) (lo := fun a => [some (rf (zG Z) k), none, none, some (.int a.1)]) (E := fun b11 => WM Z b11 79 [some (rf (zG Z) k), none, none, none] []) (fun a => m_X3_canDivide_b31_ok C hR k a.1 hk a.2 (fun _ h => h) (fun _ h => h)) ?_) ⟨rfl, rfl, trivial⟩
  intro b11
  refine w_hx ?_
  refine w_aload_n (v := k) C dX3_canDivide_79 rfl (q := 80) rfl ?_
  refine g_X3_2 C hk lk_X3_15 dX3_canDivide_80 (q := 83) rfl ?_
  refine w_iconst (v := (0)) C dX3_canDivide_83 (by decide) (q := 84) rfl ?_
  refine w_callS (val := fun r12 => some (.int r12)) (mem := fun r12 => b11) (st1 := fun r12 => [.int r12]) (As := [rf (zG Z) (k + 2), .int 0]) (st := []) (q := 87) C hR (fun x h => c_X3_at12 (zl Z) (zG Z) ((0 : Int32)) (st_X3_2 hk).2 b11 h) mv_X3_at lk_X3_51 rfl (by decide) (fun _ => rfl) (Nat.le_of_ble_eq_true rfl) rfl rfl dX3_canDivide_84 rfl (fun r12 => ?_)
  refine w_iconst (v := (0)) C dX3_canDivide_87 (by decide) (q := 88) rfl ?_
  refine w_callS (val := fun r13 => some (.int r13)) (mem := fun r13 => b11) (st1 := fun r13 => [.int r13]) (As := [.int r12, .int 0]) (st := []) (q := 91) C hR (fun x h => c_X3_contains (zl Z) (zG Z) r12 ((0 : Int32))  b11 h) mv_X3_contains lk_X3_59 rfl (by decide) (fun _ => rfl) (Nat.le_of_ble_eq_true rfl) rfl rfl dX3_canDivide_88 rfl (fun r13 => ?_)
  refine w_gd (fun h14 => ?_)
  exact w_iret C (hK _) (okz_n h14).1 dX3_canDivide_91
theorem c_X3_canDivide (l : Launch) (G : Gx) {k : Nat} {p1 : Nat} (hk : isO k 3) (hp1 : isO p1 4) (I : Mem) {x : Int32 × Mem} (h : m_X3_canDivide k p1 I = some x) : Ct l G yX3_canDivide cX3_canDivide 4 (some (.boolean)) 3 78 [rf G k, rf G p1] I (some (.int x.1)) x.2 := Ct.of (by decide +kernel) rfl (Nat.le_of_ble_eq_true rfl) ret_i (fun Z hG hl C hR hret => by
  subst hG
  exact m_X3_canDivide_ok (K := fun y => y = x) C hR k p1 hk hp1 I (fun y hy => by subst hy; exact hret) x h rfl)
def m_X3_greatestTimes_j61 (k : Nat) (p1 : Int32) (p2 : Int32) (x3 : Nat) (x4 : Int32) (x5 : Int32) (x6 : Int32) (I : Mem) : Option ((Int32 × Int32) ⊕ ((Int32) ⊕ (Int32))) :=
  Option.bind (m_X3_at10 (k + 1) p1 I) fun r4 => Option.bind (m_X3_contains r4 (p2 + x6) I) fun r5 => if r5 = 0 then (some (.inr (.inr (x5)))) else (some (.inl (x5, x6 + 1)))
set_option maxRecDepth 100000 in
set_option maxHeartbeats 4000000 in
theorem m_X3_greatestTimes_j61_ok {Z : Zx} {K : ((Int32 × Int32) ⊕ ((Int32) ⊕ (Int32))) → Prop} (C : Cx Z cX3_greatestTimes 7 RX3) (hR : RM Z 1 21) (k : Nat) (p1 : Int32) (p2 : Int32) (x3 : Nat) (x4 : Int32) (x5 : Int32) (x6 : Int32) (hk : isO k 3) (hx3 : isO x3 2) (I : Mem) (hB : ∀ a, K (.inl a) → WM Z I 27 [some (rf (zG Z) k), some (.int p1), some (.int p2), some (rf (zG Z) x3), some (.int x4), some (.int a.1), some (.int a.2)] []) (hX0 : ∀ b, K (.inr (.inr (b))) → WM Z I 79 [none, none, none, none, none, some (.int b), none] []) (hK : ∀ y, K (.inr (.inl (y))) → RetI Z cX3_greatestTimes .int y I) : WF Z K (m_X3_greatestTimes_j61 k p1 p2 x3 x4 x5 x6 I) I 61 [some (rf (zG Z) k), some (.int p1), some (.int p2), some (rf (zG Z) x3), some (.int x4), some (.int x5), some (.int x6)] [] := by
  unfold m_X3_greatestTimes_j61
  refine w_aload_n (v := k) C dX3_greatestTimes_61 rfl (q := 62) rfl ?_
  refine g_X3_1 C hk lk_X3_9 dX3_greatestTimes_62 (q := 65) rfl ?_
  refine w_iload_n (v := p1) C dX3_greatestTimes_65 rfl (q := 66) rfl ?_
  refine w_callS (val := fun r4 => some (.int r4)) (mem := fun r4 => I) (st1 := fun r4 => [.int r4]) (As := [rf (zG Z) (k + 1), .int p1]) (st := []) (q := 69) C hR (fun x h => c_X3_at10 (zl Z) (zG Z) p1 (st_X3_1 hk).2 I h) mv_X3_at lk_X3_51 rfl (by decide) (fun _ => rfl) (Nat.le_of_ble_eq_true rfl) rfl rfl dX3_greatestTimes_66 rfl (fun r4 => ?_)
  refine w_iload_n (v := p2) C dX3_greatestTimes_69 rfl (q := 70) rfl ?_
  refine w_iload (v := x6) C dX3_greatestTimes_70 rfl (q := 72) rfl ?_
  refine w_iadd C dX3_greatestTimes_72 (q := 73) rfl ?_
  refine w_callS (val := fun r5 => some (.int r5)) (mem := fun r5 => I) (st1 := fun r5 => [.int r5]) (As := [.int r4, .int (p2 + x6)]) (st := []) (q := 76) C hR (fun x h => c_X3_contains (zl Z) (zG Z) r4 (p2 + x6)  I h) mv_X3_contains lk_X3_59 rfl (by decide) (fun _ => rfl) (Nat.le_of_ble_eq_true rfl) rfl rfl dX3_greatestTimes_73 rfl (fun r5 => ?_)
  refine w_if_ne (tgt := 82) (q := 79) C dX3_greatestTimes_76 (by decide) rfl (fun _ => ?_) (fun _ => ?_)
  · exact w_jmp (fun h => WM.less (L' := [none, none, none, none, none, some (.int x5), none]) (hX0 _ h) ⟨rfl, trivial⟩)
  · refine w_iinc (v := x6 + 1) C dX3_greatestTimes_82 rfl rfl (L' := [some (rf (zG Z) k), some (.int p1), some (.int p2), some (rf (zG Z) x3), some (.int x4), some (.int x5), some (.int (x6 + 1))]) rfl (q := 85) rfl ?_
    refine w_goto (tgt := 27) C dX3_greatestTimes_85 (by decide) ?_
    exact w_jmp (fun h => WM.less (L' := [some (rf (zG Z) k), some (.int p1), some (.int p2), some (rf (zG Z) x3), some (.int x4), some (.int x5), some (.int (x6 + 1))]) (hB _ h) ⟨rfl, rfl, rfl, rfl, rfl, rfl, rfl, trivial⟩)
def m_X3_greatestTimes_b27 (k : Nat) (p1 : Int32) (p2 : Int32) (x3 : Nat) (x4 : Int32) (x5 : Int32) (x6 : Int32) (I : Mem) : Option ((Int32 × Int32) ⊕ ((Int32) ⊕ (Int32))) :=
  if I x3 2 < x6 then (some (.inr (.inl x5))) else (if x6 < I x3 1 then (m_X3_greatestTimes_j61 k p1 p2 x3 x4 x5 x6 I) else (Option.bind (m_X3_contains x4 (p2 + x6) I) fun r6 => if r6 = 0 then (m_X3_greatestTimes_j61 k p1 p2 x3 x4 x5 x6 I) else (m_X3_greatestTimes_j61 k p1 p2 x3 x4 x6 x6 I)))
set_option maxRecDepth 100000 in
set_option maxHeartbeats 4000000 in
theorem m_X3_greatestTimes_b27_ok {Z : Zx} {K : ((Int32 × Int32) ⊕ ((Int32) ⊕ (Int32))) → Prop} (C : Cx Z cX3_greatestTimes 7 RX3) (hR : RM Z 1 21) (k : Nat) (p1 : Int32) (p2 : Int32) (x3 : Nat) (x4 : Int32) (x5 : Int32) (x6 : Int32) (hk : isO k 3) (hx3 : isO x3 2) (I : Mem) (hB : ∀ a, K (.inl a) → WM Z I 27 [some (rf (zG Z) k), some (.int p1), some (.int p2), some (rf (zG Z) x3), some (.int x4), some (.int a.1), some (.int a.2)] []) (hX0 : ∀ b, K (.inr (.inr (b))) → WM Z I 79 [none, none, none, none, none, some (.int b), none] []) (hK : ∀ y, K (.inr (.inl (y))) → RetI Z cX3_greatestTimes .int y I) : WF Z K (m_X3_greatestTimes_b27 k p1 p2 x3 x4 x5 x6 I) I 27 [some (rf (zG Z) k), some (.int p1), some (.int p2), some (rf (zG Z) x3), some (.int x4), some (.int x5), some (.int x6)] [] := by
  unfold m_X3_greatestTimes_b27
  refine w_iload (v := x6) C dX3_greatestTimes_27 rfl (q := 29) rfl ?_
  refine w_aload_n (v := x3) C dX3_greatestTimes_29 rfl (q := 30) rfl ?_
  refine gN_X2_2 C hx3 lk_X3_121 dX3_greatestTimes_30 (q := 33) rfl ?_
  refine w_icmp_gt (tgt := 88) (q := 36) C dX3_greatestTimes_33 (by decide) rfl (fun _ => ?_) (fun _ => ?_)
  · refine w_iload (v := x5) C dX3_greatestTimes_88 rfl (q := 90) rfl ?_
    exact w_iret C (hK _) rfl dX3_greatestTimes_90
  · refine w_iload (v := x6) C dX3_greatestTimes_36 rfl (q := 38) rfl ?_
    refine w_aload_n (v := x3) C dX3_greatestTimes_38 rfl (q := 39) rfl ?_
    refine gN_X2_1 C hx3 lk_X3_114 dX3_greatestTimes_39 (q := 42) rfl ?_
    refine w_icmp_lt (tgt := 61) (q := 45) C dX3_greatestTimes_42 (by decide) rfl (fun _ => ?_) (fun _ => ?_)
    · exact WF.less (L' := [some (rf (zG Z) k), some (.int p1), some (.int p2), some (rf (zG Z) x3), some (.int x4), some (.int x5), some (.int x6)]) (m_X3_greatestTimes_j61_ok C hR k p1 p2 x3 x4 x5 x6 hk hx3 I hB hX0 hK) ⟨rfl, rfl, rfl, rfl, rfl, rfl, rfl, trivial⟩
    · refine w_iload (v := x4) C dX3_greatestTimes_45 rfl (q := 47) rfl ?_
      refine w_iload_n (v := p2) C dX3_greatestTimes_47 rfl (q := 48) rfl ?_
      refine w_iload (v := x6) C dX3_greatestTimes_48 rfl (q := 50) rfl ?_
      refine w_iadd C dX3_greatestTimes_50 (q := 51) rfl ?_
      refine w_callS (val := fun r6 => some (.int r6)) (mem := fun r6 => I) (st1 := fun r6 => [.int r6]) (As := [.int x4, .int (p2 + x6)]) (st := []) (q := 54) C hR (fun x h => c_X3_contains (zl Z) (zG Z) x4 (p2 + x6)  I h) mv_X3_contains lk_X3_59 rfl (by decide) (fun _ => rfl) (Nat.le_of_ble_eq_true rfl) rfl rfl dX3_greatestTimes_51 rfl (fun r6 => ?_)
      refine w_if_eq (tgt := 61) (q := 57) C dX3_greatestTimes_54 (by decide) rfl (fun _ => ?_) (fun _ => ?_)
      · exact WF.less (L' := [some (rf (zG Z) k), some (.int p1), some (.int p2), some (rf (zG Z) x3), some (.int x4), some (.int x5), some (.int x6)]) (m_X3_greatestTimes_j61_ok C hR k p1 p2 x3 x4 x5 x6 hk hx3 I hB hX0 hK) ⟨rfl, rfl, rfl, rfl, rfl, rfl, rfl, trivial⟩
      · refine w_iload (v := x6) C dX3_greatestTimes_57 rfl (q := 59) rfl ?_
        refine w_istore C dX3_greatestTimes_59 (Nat.le_of_ble_eq_true rfl) (L' := [some (rf (zG Z) k), some (.int p1), some (.int p2), some (rf (zG Z) x3), some (.int x4), some (.int x6), some (.int x6)]) rfl (q := 61) rfl ?_
        exact WF.less (L' := [some (rf (zG Z) k), some (.int p1), some (.int p2), some (rf (zG Z) x3), some (.int x4), some (.int x6), some (.int x6)]) (m_X3_greatestTimes_j61_ok C hR k p1 p2 x3 x4 x6 x6 hk hx3 I hB hX0 hK) ⟨rfl, rfl, rfl, rfl, rfl, rfl, rfl, trivial⟩
def m_X3_greatestTimes (k : Nat) (p1 : Int32) (p2 : Int32) (I : Mem) : Option (Int32) :=
  Option.bind (m_X8_itemAt (k - 32) p1 I) fun r1 => gd (iO r1 2) (Option.bind (m_X3_at11 (k + 4) (p1 + 1) I) fun r3 => Option.bind (loopF (fun a => m_X3_greatestTimes_b27 k p1 p2 r1 r3 a.1 a.2 I) FU ((0 : Int32), (0 : Int32))) (sm (fun y8 => some y8) (fun b9 => some b9)))
set_option maxRecDepth 100000 in
set_option maxHeartbeats 4000000 in
theorem m_X3_greatestTimes_ok {Z : Zx} {K : Int32 → Prop} (C : Cx Z cX3_greatestTimes 7 RX3) (hR : RM Z 1 21) (k : Nat) (p1 : Int32) (p2 : Int32) (hk : isO k 3) (I : Mem) (hK : ∀ y, K (y) → RetI Z cX3_greatestTimes .int y I) : WF Z K (m_X3_greatestTimes k p1 p2 I) I 0 [some (rf (zG Z) k), some (.int p1), some (.int p2), none, none, none, none] [] := by
  unfold m_X3_greatestTimes
  refine w_aload_n (v := k) C dX3_greatestTimes_0 rfl (q := 1) rfl ?_
  refine g_X3_0 C hk lk_X3_24 dX3_greatestTimes_1 (q := 4) rfl ?_
  refine w_iload_n (v := p1) C dX3_greatestTimes_4 rfl (q := 5) rfl ?_
  refine w_callV (val := fun r1 => some (rf (zG Z) r1)) (mem := fun r1 => I) (st1 := fun r1 => [rf (zG Z) r1]) (As := [.int p1]) (st := []) (q := 8) C hR (fun x h => c_X8_itemAt (zl Z) (zG Z) p1 (st_X3_0 hk).2 I h) (st_X3_0 hk).2 mv_X8_itemAt lk_X3_96 rfl (by decide) (fun _ => rfl) (Nat.le_of_ble_eq_true rfl) rfl rfl dX3_greatestTimes_5 rfl (fun r1 => ?_)
  refine w_gd (fun h2 => ?_)
  refine w_astore_n C dX3_greatestTimes_8 (Nat.le_of_ble_eq_true rfl) (L' := [some (rf (zG Z) k), some (.int p1), some (.int p2), some (rf (zG Z) r1), none, none, none]) rfl (q := 9) rfl ?_
  refine w_aload_n (v := k) C dX3_greatestTimes_9 rfl (q := 10) rfl ?_
  refine g_X3_4 C hk lk_X3_21 dX3_greatestTimes_10 (q := 13) rfl ?_
  refine w_iload_n (v := p1) C dX3_greatestTimes_13 rfl (q := 14) rfl ?_
  refine w_iconst (v := (1)) C dX3_greatestTimes_14 (by decide) (q := 15) rfl ?_
  refine w_iadd C dX3_greatestTimes_15 (q := 16) rfl ?_
  refine w_callS (val := fun r3 => some (.int r3)) (mem := fun r3 => I) (st1 := fun r3 => [.int r3]) (As := [rf (zG Z) (k + 4), .int (p1 + 1)]) (st := []) (q := 19) C hR (fun x h => c_X3_at11 (zl Z) (zG Z) (p1 + 1) (st_X3_4 hk).2 I h) mv_X3_at lk_X3_51 rfl (by decide) (fun _ => rfl) (Nat.le_of_ble_eq_true rfl) rfl rfl dX3_greatestTimes_16 rfl (fun r3 => ?_)
  refine w_istore C dX3_greatestTimes_19 (Nat.le_of_ble_eq_true rfl) (L' := [some (rf (zG Z) k), some (.int p1), some (.int p2), some (rf (zG Z) r1), some (.int r3), none, none]) rfl (q := 21) rfl ?_
  refine w_iconst (v := (0)) C dX3_greatestTimes_21 (by decide) (q := 22) rfl ?_
  refine w_istore C dX3_greatestTimes_22 (Nat.le_of_ble_eq_true rfl) (L' := [some (rf (zG Z) k), some (.int p1), some (.int p2), some (rf (zG Z) r1), some (.int r3), some (.int 0), none]) rfl (q := 24) rfl ?_
  refine w_iconst (v := (0)) C dX3_greatestTimes_24 (by decide) (q := 25) rfl ?_
  refine w_istore C dX3_greatestTimes_25 (Nat.le_of_ble_eq_true rfl) (L' := [some (rf (zG Z) k), some (.int p1), some (.int p2), some (rf (zG Z) r1), some (.int r3), some (.int 0), some (.int 0)]) rfl (q := 27) rfl ?_
  refine WF.less (L' := [some (rf (zG Z) k), some (.int p1), some (.int p2), some (rf (zG Z) r1), some (.int r3), some (.int 0), some (.int 0)]) (w_loopF (pc := 27) (a := ((0 : Int32), (0 : Int32))) (mem := fun a => I) (lo := fun a => [some (rf (zG Z) k), some (.int p1), some (.int p2), some (rf (zG Z) r1), some (.int r3), some (.int a.1), some (.int a.2)]) (E := smP (fun y8 => RetI Z cX3_greatestTimes .int y8 I) (fun b9 => WM Z I 79 [none, none, none, none, none, some (.int b9), none] [])) (fun a => m_X3_greatestTimes_b27_ok C hR k p1 p2 r1 r3 a.1 a.2 hk (iO_of h2) I (fun _ h => h) (fun _ h => h) (fun _ h => h)) ?_) ⟨rfl, rfl, rfl, rfl, rfl, rfl, rfl, trivial⟩
  refine w_sm ?_ ?_
  · intro y8
    exact w_hr (hK _)
  · intro b9
    refine w_hx ?_
    refine w_goto (tgt := 88) C dX3_greatestTimes_79 (by decide) ?_
    refine w_iload (v := b9) C dX3_greatestTimes_88 rfl (q := 90) rfl ?_
    exact w_iret C (hK _) rfl dX3_greatestTimes_90
theorem c_X3_greatestTimes (l : Launch) (G : Gx) {k : Nat} (p1 : Int32) (p2 : Int32) (hk : isO k 3) (I : Mem) {x : Int32} (h : m_X3_greatestTimes k p1 p2 I = some x) : Ct l G yX3_greatestTimes cX3_greatestTimes 7 (some (.int)) 1 21 [rf G k, .int p1, .int p2] I (some (.int x)) I := Ct.of (by decide +kernel) rfl (Nat.le_of_ble_eq_true rfl) ret_i (fun Z hG hl C hR hret => by
  subst hG
  exact m_X3_greatestTimes_ok (K := fun y => y = x) C hR k p1 p2 hk I (fun y hy => by subst hy; exact hret) x h rfl)
def m_X9_assign (k : Nat) (p1 : Int32) (p2 : Int32) (I : Mem) : Option (Mem) :=
  bnd (ms I k 5 p1) fun I1 => bnd (ms I1 k 6 p2) fun I2 => some I2
set_option maxRecDepth 100000 in
set_option maxHeartbeats 4000000 in
theorem m_X9_assign_ok {Z : Zx} {K : Mem → Prop} (C : Cx Z cX9_assign 3 RX9) (hR : RM Z 0 0) (k : Nat) (p1 : Int32) (p2 : Int32) (hk : isO k 9) (I : Mem) (hK : ∀ y, K (y) → RetV Z cX9_assign y) : WF Z K (m_X9_assign k p1 p2 I) I 0 [some (rf (zG Z) k), some (.int p1), some (.int p2)] [] := by
  unfold m_X9_assign
  refine w_aload_n (v := k) C dX9_assign_0 rfl (q := 1) rfl ?_
  refine w_iload_n (v := p1) C dX9_assign_1 rfl (q := 2) rfl ?_
  refine p_X9_5 C hk  lk_X9_30 dX9_assign_2 (q := 5) rfl (fun I1 => ?_)
  refine w_aload_n (v := k) C dX9_assign_5 rfl (q := 6) rfl ?_
  refine w_iload_n (v := p2) C dX9_assign_6 rfl (q := 7) rfl ?_
  refine p_X9_6 C hk  lk_X9_33 dX9_assign_7 (q := 10) rfl (fun I2 => ?_)
  exact w_vret C (hK _) dX9_assign_10
theorem c_X9_assign (l : Launch) (G : Gx) {k : Nat} (p1 : Int32) (p2 : Int32) (hk : isO k 9) (I : Mem) {x : Mem} (h : m_X9_assign k p1 p2 I = some x) : Ct l G yX9_assign cX9_assign 3 none 0 0 [rf G k, .int p1, .int p2] I (none) x := Ct.of (by decide +kernel) rfl (Nat.le_of_ble_eq_true rfl) ret_v (fun Z hG hl C hR hret => by
  subst hG
  exact m_X9_assign_ok (K := fun y => y = x) C hR k p1 p2 hk I (fun y hy => by subst hy; exact hret) x h rfl)
def m_X3_dividePass_j63 (k : Nat) (p1 : Nat) (p2 : Nat) (p3 : Int32) (x5 : Int32) (x6 : Int32) (x7 : Int32) (x8 : Int32) (y0 : Nat) (y1 : Int32) (y2 : Int32) (I : Mem) : Option ((Int32 × Mem) ⊕ ((Mem))) :=
  Option.bind (m_X9_assign y0 y1 y2 I) fun I4 => some (.inl (x8 + 1, I4))
set_option maxRecDepth 100000 in
set_option maxHeartbeats 4000000 in
theorem m_X3_dividePass_j63_ok {Z : Zx} {K : ((Int32 × Mem) ⊕ ((Mem))) → Prop} (C : Cx Z cX3_dividePass 9 RX3) (hR : RM Z 2 47) (k : Nat) (p1 : Nat) (p2 : Nat) (p3 : Int32) (x5 : Int32) (x6 : Int32) (x7 : Int32) (x8 : Int32) (y0 : Nat) (y1 : Int32) (y2 : Int32) (hk : isO k 3) (hp1 : isO p1 4) (hp2 : isO p2 0) (hy0 : isO y0 9) (I : Mem) (hB : ∀ a, K (.inl a) → WM Z a.2 33 [some (rf (zG Z) k), some (rf (zG Z) p1), some (rf (zG Z) p2), some (.int p3), none, some (.int x5), some (.int x6), some (.int x7), some (.int a.1)] []) (hX0 : ∀ b, K (.inr (b)) → WM Z b 72 [some (rf (zG Z) k), some (rf (zG Z) p1), some (rf (zG Z) p2), some (.int p3), none, some (.int x5), some (.int x6), some (.int x7), none] []) : WF Z K (m_X3_dividePass_j63 k p1 p2 p3 x5 x6 x7 x8 y0 y1 y2 I) I 63 [some (rf (zG Z) k), some (rf (zG Z) p1), some (rf (zG Z) p2), some (.int p3), none, some (.int x5), some (.int x6), some (.int x7), some (.int x8)] [.int y2, .int y1, rf (zG Z) y0] := by
  unfold m_X3_dividePass_j63
  refine w_callV (val := fun I4 => none) (mem := fun I4 => I4) (st1 := fun I4 => []) (As := [.int y1, .int y2]) (st := []) (q := 66) C hR (fun x h => c_X9_assign (zl Z) (zG Z) y1 y2 hy0 I h) hy0 mv_X9_assign lk_X3_133 rfl (by decide) (fun _ => rfl) (Nat.le_of_ble_eq_true rfl) rfl rfl dX3_dividePass_63 rfl (fun I4 => ?_)
  refine w_iinc (v := x8 + 1) C dX3_dividePass_66 rfl rfl (L' := [some (rf (zG Z) k), some (rf (zG Z) p1), some (rf (zG Z) p2), some (.int p3), none, some (.int x5), some (.int x6), some (.int x7), some (.int (x8 + 1))]) rfl (q := 69) rfl ?_
  refine w_goto (tgt := 33) C dX3_dividePass_69 (by decide) ?_
  exact w_jmp (fun h => WM.less (L' := [some (rf (zG Z) k), some (rf (zG Z) p1), some (rf (zG Z) p2), some (.int p3), none, some (.int x5), some (.int x6), some (.int x7), some (.int (x8 + 1))]) (hB _ h) ⟨rfl, rfl, rfl, rfl, rfl, rfl, rfl, rfl, trivial⟩)
def m_X3_dividePass_b33 (k : Nat) (p1 : Nat) (p2 : Nat) (p3 : Int32) (x5 : Int32) (x6 : Int32) (x7 : Int32) (x8 : Int32) (I : Mem) : Option ((Int32 × Mem) ⊕ ((Mem))) :=
  if x5 + x7 ≤ x8 then (some (.inr (I))) else (Option.bind (m_X4_bodyAt p1 x8 I) fun r2 => gd (iO r2 9) (if I p2 0 = 0 then (m_X3_dividePass_j63 k p1 p2 p3 x5 x6 x7 x8 r2 x6 ((0 : Int32)) I) else (m_X3_dividePass_j63 k p1 p2 p3 x5 x6 x7 x8 r2 x6 p3 I)))
set_option maxRecDepth 100000 in
set_option maxHeartbeats 4000000 in
theorem m_X3_dividePass_b33_ok {Z : Zx} {K : ((Int32 × Mem) ⊕ ((Mem))) → Prop} (C : Cx Z cX3_dividePass 9 RX3) (hR : RM Z 2 47) (k : Nat) (p1 : Nat) (p2 : Nat) (p3 : Int32) (x5 : Int32) (x6 : Int32) (x7 : Int32) (x8 : Int32) (hk : isO k 3) (hp1 : isO p1 4) (hp2 : isO p2 0) (I : Mem) (hB : ∀ a, K (.inl a) → WM Z a.2 33 [some (rf (zG Z) k), some (rf (zG Z) p1), some (rf (zG Z) p2), some (.int p3), none, some (.int x5), some (.int x6), some (.int x7), some (.int a.1)] []) (hX0 : ∀ b, K (.inr (b)) → WM Z b 72 [some (rf (zG Z) k), some (rf (zG Z) p1), some (rf (zG Z) p2), some (.int p3), none, some (.int x5), some (.int x6), some (.int x7), none] []) : WF Z K (m_X3_dividePass_b33 k p1 p2 p3 x5 x6 x7 x8 I) I 33 [some (rf (zG Z) k), some (rf (zG Z) p1), some (rf (zG Z) p2), some (.int p3), none, some (.int x5), some (.int x6), some (.int x7), some (.int x8)] [] := by
  unfold m_X3_dividePass_b33
  refine w_iload (v := x8) C dX3_dividePass_33 rfl (q := 35) rfl ?_
  refine w_iload (v := x5) C dX3_dividePass_35 rfl (q := 37) rfl ?_
  refine w_iload (v := x7) C dX3_dividePass_37 rfl (q := 39) rfl ?_
  refine w_iadd C dX3_dividePass_39 (q := 40) rfl ?_
  refine w_icmp_ge (tgt := 72) (q := 43) C dX3_dividePass_40 (by decide) rfl (fun _ => ?_) (fun _ => ?_)
  · exact w_jmp (fun h => WM.less (L' := [some (rf (zG Z) k), some (rf (zG Z) p1), some (rf (zG Z) p2), some (.int p3), none, some (.int x5), some (.int x6), some (.int x7), none]) (hX0 _ h) ⟨rfl, rfl, rfl, rfl, rfl, rfl, rfl, trivial⟩)
  · refine w_aload_n (v := p1) C dX3_dividePass_43 rfl (q := 44) rfl ?_
    refine w_iload (v := x8) C dX3_dividePass_44 rfl (q := 46) rfl ?_
    refine w_callV (val := fun r2 => some (rf (zG Z) r2)) (mem := fun r2 => I) (st1 := fun r2 => [rf (zG Z) r2]) (As := [.int x8]) (st := []) (q := 49) C hR (fun x h => c_X4_bodyAt (zl Z) (zG Z) x8 hp1 I h) hp1 mv_X4_bodyAt lk_X3_86 rfl (by decide) (fun _ => rfl) (Nat.le_of_ble_eq_true rfl) rfl rfl dX3_dividePass_46 rfl (fun r2 => ?_)
    refine w_gd (fun h3 => ?_)
    refine w_iload (v := x6) C dX3_dividePass_49 rfl (q := 51) rfl ?_
    refine w_aload_n (v := p2) C dX3_dividePass_51 rfl (q := 52) rfl ?_
    refine gN_X0_0 C hp2 lk_X3_129 dX3_dividePass_52 (q := 55) rfl ?_
    refine w_if_eq (tgt := 62) (q := 58) C dX3_dividePass_55 (by decide) rfl (fun _ => ?_) (fun _ => ?_)
    · refine w_iconst (v := (0)) C dX3_dividePass_62 (by decide) (q := 63) rfl ?_
      exact WF.less (L' := [some (rf (zG Z) k), some (rf (zG Z) p1), some (rf (zG Z) p2), some (.int p3), none, some (.int x5), some (.int x6), some (.int x7), some (.int x8)]) (m_X3_dividePass_j63_ok C hR k p1 p2 p3 x5 x6 x7 x8 r2 x6 ((0 : Int32)) hk hp1 hp2 (iO_of h3) I hB hX0) ⟨rfl, rfl, rfl, rfl, rfl, rfl, rfl, rfl, trivial⟩
    · refine w_iload_n (v := p3) C dX3_dividePass_58 rfl (q := 59) rfl ?_
      refine w_goto (tgt := 63) C dX3_dividePass_59 (by decide) ?_
      exact WF.less (L' := [some (rf (zG Z) k), some (rf (zG Z) p1), some (rf (zG Z) p2), some (.int p3), none, some (.int x5), some (.int x6), some (.int x7), some (.int x8)]) (m_X3_dividePass_j63_ok C hR k p1 p2 p3 x5 x6 x7 x8 r2 x6 p3 hk hp1 hp2 (iO_of h3) I hB hX0) ⟨rfl, rfl, rfl, rfl, rfl, rfl, rfl, rfl, trivial⟩
def m_X3_dividePass_b10 (k : Nat) (p1 : Nat) (p2 : Nat) (p3 : Int32) (x5 : Int32) (x6 : Int32) (I : Mem) : Option ((Int32 × Int32 × Mem) ⊕ ((Int32 × Mem))) :=
  if I p2 2 ≤ x6 then (some (.inr ((x5, I)))) else (Option.bind (m_X3_greatestTimes k x6 x5 I) fun r1 => Option.bind (loopF (fun a => m_X3_dividePass_b33 k p1 p2 p3 x5 x6 r1 a.1 a.2) FU (x5, I)) (fun b5 => some (.inl (x5 + r1, x6 + 1, b5))))
set_option maxRecDepth 100000 in
set_option maxHeartbeats 4000000 in
theorem m_X3_dividePass_b10_ok {Z : Zx} {K : ((Int32 × Int32 × Mem) ⊕ ((Int32 × Mem))) → Prop} (C : Cx Z cX3_dividePass 9 RX3) (hR : RM Z 2 47) (k : Nat) (p1 : Nat) (p2 : Nat) (p3 : Int32) (x5 : Int32) (x6 : Int32) (hk : isO k 3) (hp1 : isO p1 4) (hp2 : isO p2 0) (I : Mem) (hB : ∀ a, K (.inl a) → WM Z a.2.2 10 [some (rf (zG Z) k), some (rf (zG Z) p1), some (rf (zG Z) p2), some (.int p3), none, some (.int a.1), some (.int a.2.1), none, none] []) (hX0 : ∀ b, K (.inr (b)) → WM Z b.2 85 [none, none, none, none, none, some (.int b.1), none, none, none] []) : WF Z K (m_X3_dividePass_b10 k p1 p2 p3 x5 x6 I) I 10 [some (rf (zG Z) k), some (rf (zG Z) p1), some (rf (zG Z) p2), some (.int p3), none, some (.int x5), some (.int x6), none, none] [] := by
  unfold m_X3_dividePass_b10
  refine w_iload (v := x6) C dX3_dividePass_10 rfl (q := 12) rfl ?_
  refine w_aload_n (v := p2) C dX3_dividePass_12 rfl (q := 13) rfl ?_
  refine gN_X0_2 C hp2 lk_X3_108 dX3_dividePass_13 (q := 16) rfl ?_
  refine w_icmp_ge (tgt := 85) (q := 19) C dX3_dividePass_16 (by decide) rfl (fun _ => ?_) (fun _ => ?_)
  · exact w_jmp (fun h => WM.less (L' := [none, none, none, none, none, some (.int x5), none, none, none]) (hX0 _ h) ⟨rfl, trivial⟩)
  · refine w_aload_n (v := k) C dX3_dividePass_19 rfl (q := 20) rfl ?_
    refine w_iload (v := x6) C dX3_dividePass_20 rfl (q := 22) rfl ?_
    refine w_iload (v := x5) C dX3_dividePass_22 rfl (q := 24) rfl ?_
    refine w_callV (val := fun r1 => some (.int r1)) (mem := fun r1 => I) (st1 := fun r1 => [.int r1]) (As := [.int x6, .int x5]) (st := []) (q := 27) C hR (fun x h => c_X3_greatestTimes (zl Z) (zG Z) x6 x5 hk I h) hk mv_X3_greatestTimes lk_X3_126 rfl (by decide) (fun _ => rfl) (Nat.le_of_ble_eq_true rfl) rfl rfl dX3_dividePass_24 rfl (fun r1 => ?_)
    refine w_istore C dX3_dividePass_27 (Nat.le_of_ble_eq_true rfl) (L' := [some (rf (zG Z) k), some (rf (zG Z) p1), some (rf (zG Z) p2), some (.int p3), none, some (.int x5), some (.int x6), some (.int r1), none]) rfl (q := 29) rfl ?_
    refine w_iload (v := x5) C dX3_dividePass_29 rfl (q := 31) rfl ?_
    refine w_istore C dX3_dividePass_31 (Nat.le_of_ble_eq_true rfl) (L' := [some (rf (zG Z) k), some (rf (zG Z) p1), some (rf (zG Z) p2), some (.int p3), none, some (.int x5), some (.int x6), some (.int r1), some (.int x5)]) rfl (q := 33) rfl ?_
    refine WF.less (L' := [some (rf (zG Z) k), some (rf (zG Z) p1), some (rf (zG Z) p2), some (.int p3), none, some (.int x5), some (.int x6), some (.int r1), some (.int x5)]) (w_loopF (pc := 33) (a := (x5, I)) (mem := fun a => a.2) (lo := fun a => [some (rf (zG Z) k), some (rf (zG Z) p1), some (rf (zG Z) p2), some (.int p3), none, some (.int x5), some (.int x6), some (.int r1), some (.int a.1)]) (E := fun b5 => WM Z b5 72 [some (rf (zG Z) k), some (rf (zG Z) p1), some (rf (zG Z) p2), some (.int p3), none, some (.int x5), some (.int x6), some (.int r1), none] []) (fun a => m_X3_dividePass_b33_ok C hR k p1 p2 p3 x5 x6 r1 a.1 hk hp1 hp2 a.2 (fun _ h => h) (fun _ h => h)) ?_) ⟨rfl, rfl, rfl, rfl, rfl, rfl, rfl, rfl, trivial⟩
    intro b5
    refine w_hx ?_
    refine w_iload (v := x5) C dX3_dividePass_72 rfl (q := 74) rfl ?_
    refine w_iload (v := r1) C dX3_dividePass_74 rfl (q := 76) rfl ?_
    refine w_iadd C dX3_dividePass_76 (q := 77) rfl ?_
    refine w_istore C dX3_dividePass_77 (Nat.le_of_ble_eq_true rfl) (L' := [some (rf (zG Z) k), some (rf (zG Z) p1), some (rf (zG Z) p2), some (.int p3), none, some (.int (x5 + r1)), some (.int x6), some (.int r1), none]) rfl (q := 79) rfl ?_
    refine w_iinc (v := x6 + 1) C dX3_dividePass_79 rfl rfl (L' := [some (rf (zG Z) k), some (rf (zG Z) p1), some (rf (zG Z) p2), some (.int p3), none, some (.int (x5 + r1)), some (.int (x6 + 1)), some (.int r1), none]) rfl (q := 82) rfl ?_
    refine w_goto (tgt := 10) C dX3_dividePass_82 (by decide) ?_
    exact w_jmp (fun h => WM.less (L' := [some (rf (zG Z) k), some (rf (zG Z) p1), some (rf (zG Z) p2), some (.int p3), none, some (.int (x5 + r1)), some (.int (x6 + 1)), none, none]) (hB _ h) ⟨rfl, rfl, rfl, rfl, rfl, rfl, trivial⟩)
def m_X3_dividePass (k : Nat) (p1 : Nat) (p2 : Nat) (p3 : Int32) (p4 : Int32) (I : Mem) : Option (Int32 × Mem) :=
  Option.bind (loopF (fun a => m_X3_dividePass_b10 k p1 p2 p3 a.1 a.2.1 a.2.2) FU (p4, I p2 1, I)) (fun b6 => some ((b6.1, b6.2)))
set_option maxRecDepth 100000 in
set_option maxHeartbeats 4000000 in
theorem m_X3_dividePass_ok {Z : Zx} {K : (Int32 × Mem) → Prop} (C : Cx Z cX3_dividePass 9 RX3) (hR : RM Z 2 47) (k : Nat) (p1 : Nat) (p2 : Nat) (p3 : Int32) (p4 : Int32) (hk : isO k 3) (hp1 : isO p1 4) (hp2 : isO p2 0) (I : Mem) (hK : ∀ y, K (y) → RetI Z cX3_dividePass .int y.1 y.2) : WF Z K (m_X3_dividePass k p1 p2 p3 p4 I) I 0 [some (rf (zG Z) k), some (rf (zG Z) p1), some (rf (zG Z) p2), some (.int p3), some (.int p4), none, none, none, none] [] := by
  unfold m_X3_dividePass
  refine w_iload (v := p4) C dX3_dividePass_0 rfl (q := 2) rfl ?_
  refine w_istore C dX3_dividePass_2 (Nat.le_of_ble_eq_true rfl) (L' := [some (rf (zG Z) k), some (rf (zG Z) p1), some (rf (zG Z) p2), some (.int p3), some (.int p4), some (.int p4), none, none, none]) rfl (q := 4) rfl ?_
  refine w_aload_n (v := p2) C dX3_dividePass_4 rfl (q := 5) rfl ?_
  refine gN_X0_1 C hp2 lk_X3_111 dX3_dividePass_5 (q := 8) rfl ?_
  refine w_istore C dX3_dividePass_8 (Nat.le_of_ble_eq_true rfl) (L' := [some (rf (zG Z) k), some (rf (zG Z) p1), some (rf (zG Z) p2), some (.int p3), some (.int p4), some (.int p4), some (.int (I p2 1)), none, none]) rfl (q := 10) rfl ?_
  refine WF.less (L' := [some (rf (zG Z) k), some (rf (zG Z) p1), some (rf (zG Z) p2), some (.int p3), none, some (.int p4), some (.int (I p2 1)), none, none]) (w_loopF (pc := 10) (a := (p4, I p2 1, I)) (mem := fun a => a.2.2) (lo := fun a => [some (rf (zG Z) k), some (rf (zG Z) p1), some (rf (zG Z) p2), some (.int p3), none, some (.int a.1), some (.int a.2.1), none, none]) (E := fun b6 => WM Z b6.2 85 [none, none, none, none, none, some (.int b6.1), none, none, none] []) (fun a => m_X3_dividePass_b10_ok C hR k p1 p2 p3 a.1 a.2.1 hk hp1 hp2 a.2.2 (fun _ h => h) (fun _ h => h)) ?_) ⟨rfl, rfl, rfl, rfl, rfl, rfl, trivial⟩
  intro b6
  refine w_hx ?_
  refine w_iload (v := b6.1) C dX3_dividePass_85 rfl (q := 87) rfl ?_
  exact w_iret C (hK _) rfl dX3_dividePass_87
theorem c_X3_dividePass (l : Launch) (G : Gx) {k : Nat} {p1 : Nat} {p2 : Nat} (p3 : Int32) (p4 : Int32) (hk : isO k 3) (hp1 : isO p1 4) (hp2 : isO p2 0) (I : Mem) {x : Int32 × Mem} (h : m_X3_dividePass k p1 p2 p3 p4 I = some x) : Ct l G yX3_dividePass cX3_dividePass 9 (some (.int)) 2 47 [rf G k, rf G p1, rf G p2, .int p3, .int p4] I (some (.int x.1)) x.2 := Ct.of (by decide +kernel) rfl (Nat.le_of_ble_eq_true rfl) ret_i (fun Z hG hl C hR hret => by
  subst hG
  exact m_X3_dividePass_ok (K := fun y => y = x) C hR k p1 p2 p3 p4 hk hp1 hp2 I (fun y hy => by subst hy; exact hret) x h rfl)
def m_X3_divide_b44 (k : Nat) (p1 : Nat) (x3 : Int32) (x4 : Nat) (x2 : Int32) (x5 : Int32) (I : Mem) : Option ((Int32 × Int32 × Mem) ⊕ ((Int32 × Mem))) :=
  if I x4 4 ≤ x5 then (some (.inr ((x2, I)))) else (Option.bind (m_X3_at10 (k + 3) (x5 + 1) I) fun r6 => Option.bind (m_X3_placesBeforePass k x4 r6 I) fun r7 => Option.bind (m_X3_contains r7.1 x2 r7.2) fun r8 => if r8 = 0 then (some (.inr ((x2, r7.2)))) else (Option.bind (m_X3_dividePass k p1 x4 (x5 + 1) x2 r7.2) fun r9 => some (.inl (r9.1, x5 + 1, r9.2))))
set_option maxRecDepth 100000 in
set_option maxHeartbeats 4000000 in
theorem m_X3_divide_b44_ok {Z : Zx} {K : ((Int32 × Int32 × Mem) ⊕ ((Int32 × Mem))) → Prop} (C : Cx Z cX3_divide 6 RX3) (hR : RM Z 3 78) (k : Nat) (p1 : Nat) (x3 : Int32) (x4 : Nat) (x2 : Int32) (x5 : Int32) (hk : isO k 3) (hp1 : isO p1 4) (hx4 : isO x4 0) (I : Mem) (hB : ∀ a, K (.inl a) → WM Z a.2.2 44 [some (rf (zG Z) k), some (rf (zG Z) p1), some (.int a.1), some (.int x3), some (rf (zG Z) x4), some (.int a.2.1)] []) (hX0 : ∀ b, K (.inr (b)) → WM Z b.2 95 [some (rf (zG Z) k), some (rf (zG Z) p1), some (.int b.1), some (.int x3), none, none] []) : WF Z K (m_X3_divide_b44 k p1 x3 x4 x2 x5 I) I 44 [some (rf (zG Z) k), some (rf (zG Z) p1), some (.int x2), some (.int x3), some (rf (zG Z) x4), some (.int x5)] [] := by
  unfold m_X3_divide_b44
  refine w_iload (v := x5) C dX3_divide_44 rfl (q := 46) rfl ?_
  refine w_aload (v := x4) C dX3_divide_46 rfl (q := 48) rfl ?_
  refine gN_X0_4 C hx4 lk_X3_63 dX3_divide_48 (q := 51) rfl ?_
  refine w_icmp_ge (tgt := 95) (q := 54) C dX3_divide_51 (by decide) rfl (fun _ => ?_) (fun _ => ?_)
  · exact w_jmp (fun h => WM.less (L' := [some (rf (zG Z) k), some (rf (zG Z) p1), some (.int x2), some (.int x3), none, none]) (hX0 _ h) ⟨rfl, rfl, rfl, rfl, trivial⟩)
  · refine w_aload_n (v := k) C dX3_divide_54 rfl (q := 55) rfl ?_
    refine w_aload (v := x4) C dX3_divide_55 rfl (q := 57) rfl ?_
    refine w_aload_n (v := k) C dX3_divide_57 rfl (q := 58) rfl ?_
    refine g_X3_3 C hk lk_X3_18 dX3_divide_58 (q := 61) rfl ?_
    refine w_iload (v := x5) C dX3_divide_61 rfl (q := 63) rfl ?_
    refine w_iconst (v := (1)) C dX3_divide_63 (by decide) (q := 64) rfl ?_
    refine w_iadd C dX3_divide_64 (q := 65) rfl ?_
    refine w_callS (val := fun r6 => some (.int r6)) (mem := fun r6 => I) (st1 := fun r6 => [.int r6, rf (zG Z) x4, rf (zG Z) k]) (As := [rf (zG Z) (k + 3), .int (x5 + 1)]) (st := [rf (zG Z) x4, rf (zG Z) k]) (q := 68) C hR (fun x h => c_X3_at10 (zl Z) (zG Z) (x5 + 1) (st_X3_3 hk).2 I h) mv_X3_at lk_X3_51 rfl (by decide) (fun _ => rfl) (Nat.le_of_ble_eq_true rfl) rfl rfl dX3_divide_65 rfl (fun r6 => ?_)
    refine w_callV (val := fun r7 => some (.int r7.1)) (mem := fun r7 => r7.2) (st1 := fun r7 => [.int r7.1]) (As := [rf (zG Z) x4, .int r6]) (st := []) (q := 71) C hR (fun x h => c_X3_placesBeforePass (zl Z) (zG Z) r6 hk hx4 I h) hk mv_X3_placesBeforePass lk_X3_69 rfl (by decide) (fun _ => rfl) (Nat.le_of_ble_eq_true rfl) rfl rfl dX3_divide_68 rfl (fun r7 => ?_)
    refine w_iload_n (v := x2) C dX3_divide_71 rfl (q := 72) rfl ?_
    refine w_callS (val := fun r8 => some (.int r8)) (mem := fun r8 => r7.2) (st1 := fun r8 => [.int r8]) (As := [.int r7.1, .int x2]) (st := []) (q := 75) C hR (fun x h => c_X3_contains (zl Z) (zG Z) r7.1 x2  r7.2 h) mv_X3_contains lk_X3_59 rfl (by decide) (fun _ => rfl) (Nat.le_of_ble_eq_true rfl) rfl rfl dX3_divide_72 rfl (fun r8 => ?_)
    refine w_if_eq (tgt := 95) (q := 78) C dX3_divide_75 (by decide) rfl (fun _ => ?_) (fun _ => ?_)
    · exact w_jmp (fun h => WM.less (L' := [some (rf (zG Z) k), some (rf (zG Z) p1), some (.int x2), some (.int x3), none, none]) (hX0 _ h) ⟨rfl, rfl, rfl, rfl, trivial⟩)
    · refine w_iinc (v := x5 + 1) C dX3_divide_78 rfl rfl (L' := [some (rf (zG Z) k), some (rf (zG Z) p1), some (.int x2), some (.int x3), some (rf (zG Z) x4), some (.int (x5 + 1))]) rfl (q := 81) rfl ?_
      refine w_aload_n (v := k) C dX3_divide_81 rfl (q := 82) rfl ?_
      refine w_aload_n (v := p1) C dX3_divide_82 rfl (q := 83) rfl ?_
      refine w_aload (v := x4) C dX3_divide_83 rfl (q := 85) rfl ?_
      refine w_iload (v := x5 + 1) C dX3_divide_85 rfl (q := 87) rfl ?_
      refine w_iload_n (v := x2) C dX3_divide_87 rfl (q := 88) rfl ?_
      refine w_callV (val := fun r9 => some (.int r9.1)) (mem := fun r9 => r9.2) (st1 := fun r9 => [.int r9.1]) (As := [rf (zG Z) p1, rf (zG Z) x4, .int (x5 + 1), .int x2]) (st := []) (q := 91) C hR (fun x h => c_X3_dividePass (zl Z) (zG Z) (x5 + 1) x2 hk hp1 hx4 r7.2 h) hk mv_X3_dividePass lk_X3_73 rfl (by decide) (fun _ => rfl) (Nat.le_of_ble_eq_true rfl) rfl rfl dX3_divide_88 rfl (fun r9 => ?_)
      refine w_istore_n C dX3_divide_91 (Nat.le_of_ble_eq_true rfl) (L' := [some (rf (zG Z) k), some (rf (zG Z) p1), some (.int r9.1), some (.int x3), some (rf (zG Z) x4), some (.int (x5 + 1))]) rfl (q := 92) rfl ?_
      refine w_goto (tgt := 44) C dX3_divide_92 (by decide) ?_
      exact w_jmp (fun h => WM.less (L' := [some (rf (zG Z) k), some (rf (zG Z) p1), some (.int r9.1), some (.int x3), some (rf (zG Z) x4), some (.int (x5 + 1))]) (hB _ h) ⟨rfl, rfl, rfl, rfl, rfl, rfl, trivial⟩)
def m_X3_divide_b4 (k : Nat) (p1 : Nat) (x2 : Int32) (x3 : Int32) (I : Mem) : Option ((Int32 × Int32 × Mem) ⊕ ((Mem))) :=
  Option.bind (m_X8_entryCount (k - 32) I) fun r1 => if r1 ≤ x3 then (some (.inr (I))) else (Option.bind (m_X8_entryAt (k - 32) x3 I) fun r2 => gd (iO r2 0) (Option.bind (m_X3_at12 (k + 2) (x3 + 1) I) fun r4 => Option.bind (m_X3_findAfters k r2 r4 I) fun I5 => Option.bind (loopF (fun a => m_X3_divide_b44 k p1 x3 r2 a.1 a.2.1 a.2.2) FU (x2, (0 : Int32), I5)) (fun b10 => some (.inl (b10.1, x3 + 1, b10.2)))))
set_option maxRecDepth 100000 in
set_option maxHeartbeats 4000000 in
theorem m_X3_divide_b4_ok {Z : Zx} {K : ((Int32 × Int32 × Mem) ⊕ ((Mem))) → Prop} (C : Cx Z cX3_divide 6 RX3) (hR : RM Z 3 78) (k : Nat) (p1 : Nat) (x2 : Int32) (x3 : Int32) (hk : isO k 3) (hp1 : isO p1 4) (I : Mem) (hB : ∀ a, K (.inl a) → WM Z a.2.2 4 [some (rf (zG Z) k), some (rf (zG Z) p1), some (.int a.1), some (.int a.2.1), none, none] []) (hX0 : ∀ b, K (.inr (b)) → WM Z b 101 [none, none, none, none, none, none] []) : WF Z K (m_X3_divide_b4 k p1 x2 x3 I) I 4 [some (rf (zG Z) k), some (rf (zG Z) p1), some (.int x2), some (.int x3), none, none] [] := by
  unfold m_X3_divide_b4
  refine w_iload_n (v := x3) C dX3_divide_4 rfl (q := 5) rfl ?_
  refine w_aload_n (v := k) C dX3_divide_5 rfl (q := 6) rfl ?_
  refine g_X3_0 C hk lk_X3_24 dX3_divide_6 (q := 9) rfl ?_
  refine w_callV (val := fun r1 => some (.int r1)) (mem := fun r1 => I) (st1 := fun r1 => [.int r1, .int x3]) (As := []) (st := [.int x3]) (q := 12) C hR (fun x h => c_X8_entryCount (zl Z) (zG Z)  (st_X3_0 hk).2 I h) (st_X3_0 hk).2 mv_X8_entryCount lk_X3_32 rfl (by decide) (fun _ => rfl) (Nat.le_of_ble_eq_true rfl) rfl rfl dX3_divide_9 rfl (fun r1 => ?_)
  refine w_icmp_ge (tgt := 101) (q := 15) C dX3_divide_12 (by decide) rfl (fun _ => ?_) (fun _ => ?_)
  · exact w_jmp (fun h => WM.less (L' := [none, none, none, none, none, none]) (hX0 _ h) trivial)
  · refine w_aload_n (v := k) C dX3_divide_15 rfl (q := 16) rfl ?_
    refine g_X3_0 C hk lk_X3_24 dX3_divide_16 (q := 19) rfl ?_
    refine w_iload_n (v := x3) C dX3_divide_19 rfl (q := 20) rfl ?_
    refine w_callV (val := fun r2 => some (rf (zG Z) r2)) (mem := fun r2 => I) (st1 := fun r2 => [rf (zG Z) r2]) (As := [.int x3]) (st := []) (q := 23) C hR (fun x h => c_X8_entryAt (zl Z) (zG Z) x3 (st_X3_0 hk).2 I h) (st_X3_0 hk).2 mv_X8_entryAt lk_X3_47 rfl (by decide) (fun _ => rfl) (Nat.le_of_ble_eq_true rfl) rfl rfl dX3_divide_20 rfl (fun r2 => ?_)
    refine w_gd (fun h3 => ?_)
    refine w_astore C dX3_divide_23 (Nat.le_of_ble_eq_true rfl) (L' := [some (rf (zG Z) k), some (rf (zG Z) p1), some (.int x2), some (.int x3), some (rf (zG Z) r2), none]) rfl (q := 25) rfl ?_
    refine w_aload_n (v := k) C dX3_divide_25 rfl (q := 26) rfl ?_
    refine w_aload (v := r2) C dX3_divide_26 rfl (q := 28) rfl ?_
    refine w_aload_n (v := k) C dX3_divide_28 rfl (q := 29) rfl ?_
    refine g_X3_2 C hk lk_X3_15 dX3_divide_29 (q := 32) rfl ?_
    refine w_iload_n (v := x3) C dX3_divide_32 rfl (q := 33) rfl ?_
    refine w_iconst (v := (1)) C dX3_divide_33 (by decide) (q := 34) rfl ?_
    refine w_iadd C dX3_divide_34 (q := 35) rfl ?_
    refine w_callS (val := fun r4 => some (.int r4)) (mem := fun r4 => I) (st1 := fun r4 => [.int r4, rf (zG Z) r2, rf (zG Z) k]) (As := [rf (zG Z) (k + 2), .int (x3 + 1)]) (st := [rf (zG Z) r2, rf (zG Z) k]) (q := 38) C hR (fun x h => c_X3_at12 (zl Z) (zG Z) (x3 + 1) (st_X3_2 hk).2 I h) mv_X3_at lk_X3_51 rfl (by decide) (fun _ => rfl) (Nat.le_of_ble_eq_true rfl) rfl rfl dX3_divide_35 rfl (fun r4 => ?_)
    refine w_callV (val := fun I5 => none) (mem := fun I5 => I5) (st1 := fun I5 => []) (As := [rf (zG Z) r2, .int r4]) (st := []) (q := 41) C hR (fun x h => c_X3_findAfters (zl Z) (zG Z) r4 hk (iO_of h3) I h) hk mv_X3_findAfters lk_X3_55 rfl (by decide) (fun _ => rfl) (Nat.le_of_ble_eq_true rfl) rfl rfl dX3_divide_38 rfl (fun I5 => ?_)
    refine w_iconst (v := (0)) C dX3_divide_41 (by decide) (q := 42) rfl ?_
    refine w_istore C dX3_divide_42 (Nat.le_of_ble_eq_true rfl) (L' := [some (rf (zG Z) k), some (rf (zG Z) p1), some (.int x2), some (.int x3), some (rf (zG Z) r2), some (.int 0)]) rfl (q := 44) rfl ?_
    refine WF.less (L' := [some (rf (zG Z) k), some (rf (zG Z) p1), some (.int x2), some (.int x3), some (rf (zG Z) r2), some (.int 0)]) (w_loopF (pc := 44) (a := (x2, (0 : Int32), I5)) (mem := fun a => a.2.2) (lo := fun a => [some (rf (zG Z) k), some (rf (zG Z) p1), some (.int a.1), some (.int x3), some (rf (zG Z) r2), some (.int a.2.1)]) (E := fun b10 => WM Z b10.2 95 [some (rf (zG Z) k), some (rf (zG Z) p1), some (.int b10.1), some (.int x3), none, none] []) (fun a => m_X3_divide_b44_ok C hR k p1 x3 r2 a.1 a.2.1 hk hp1 (iO_of h3) a.2.2 (fun _ h => h) (fun _ h => h)) ?_) ⟨rfl, rfl, rfl, rfl, rfl, rfl, trivial⟩
    intro b10
    refine w_hx ?_
    refine w_iinc (v := x3 + 1) C dX3_divide_95 rfl rfl (L' := [some (rf (zG Z) k), some (rf (zG Z) p1), some (.int b10.1), some (.int (x3 + 1)), none, none]) rfl (q := 98) rfl ?_
    refine w_goto (tgt := 4) C dX3_divide_98 (by decide) ?_
    exact w_jmp (fun h => WM.less (L' := [some (rf (zG Z) k), some (rf (zG Z) p1), some (.int b10.1), some (.int (x3 + 1)), none, none]) (hB _ h) ⟨rfl, rfl, rfl, rfl, trivial⟩)
def m_X3_divide (k : Nat) (p1 : Nat) (I : Mem) : Option (Mem) :=
  Option.bind (loopF (fun a => m_X3_divide_b4 k p1 a.1 a.2.1 a.2.2) FU ((0 : Int32), (0 : Int32), I)) (fun b11 => some b11)
set_option maxRecDepth 100000 in
set_option maxHeartbeats 4000000 in
theorem m_X3_divide_ok {Z : Zx} {K : Mem → Prop} (C : Cx Z cX3_divide 6 RX3) (hR : RM Z 3 78) (k : Nat) (p1 : Nat) (hk : isO k 3) (hp1 : isO p1 4) (I : Mem) (hK : ∀ y, K (y) → RetV Z cX3_divide y) : WF Z K (m_X3_divide k p1 I) I 0 [some (rf (zG Z) k), some (rf (zG Z) p1), none, none, none, none] [] := by
  unfold m_X3_divide
  refine w_iconst (v := (0)) C dX3_divide_0 (by decide) (q := 1) rfl ?_
  refine w_istore_n C dX3_divide_1 (Nat.le_of_ble_eq_true rfl) (L' := [some (rf (zG Z) k), some (rf (zG Z) p1), some (.int 0), none, none, none]) rfl (q := 2) rfl ?_
  refine w_iconst (v := (0)) C dX3_divide_2 (by decide) (q := 3) rfl ?_
  refine w_istore_n C dX3_divide_3 (Nat.le_of_ble_eq_true rfl) (L' := [some (rf (zG Z) k), some (rf (zG Z) p1), some (.int 0), some (.int 0), none, none]) rfl (q := 4) rfl ?_
  refine WF.less (L' := [some (rf (zG Z) k), some (rf (zG Z) p1), some (.int 0), some (.int 0), none, none]) (w_loopF (pc := 4) (a := ((0 : Int32), (0 : Int32), I)) (mem := fun a => a.2.2) (lo := fun a => [some (rf (zG Z) k), some (rf (zG Z) p1), some (.int a.1), some (.int a.2.1), none, none]) (E := fun b11 => WM Z b11 101 [none, none, none, none, none, none] []) (fun a => m_X3_divide_b4_ok C hR k p1 a.1 a.2.1 hk hp1 a.2.2 (fun _ h => h) (fun _ h => h)) ?_) ⟨rfl, rfl, rfl, rfl, trivial⟩
  intro b11
  refine w_hx ?_
  exact w_vret C (hK _) dX3_divide_101
theorem c_X3_divide (l : Launch) (G : Gx) {k : Nat} {p1 : Nat} (hk : isO k 3) (hp1 : isO p1 4) (I : Mem) {x : Mem} (h : m_X3_divide k p1 I = some x) : Ct l G yX3_divide cX3_divide 6 none 3 78 [rf G k, rf G p1] I (none) x := Ct.of (by decide +kernel) rfl (Nat.le_of_ble_eq_true rfl) ret_v (fun Z hG hl C hR hret => by
  subst hG
  exact m_X3_divide_ok (K := fun y => y = x) C hR k p1 hk hp1 I (fun y hy => by subst hy; exact hret) x h rfl)
def m_X3_placesBehindItem_j33 (p1 : Int32) (p2 : Int32) (p3 : Int32) (x4 : Int32) (x5 : Int32) (x6 : Int32) (I : Mem) : Option ((Int32 × Int32 × Int32) ⊕ ((Int32))) :=
  some (.inl (x4, (x5 &&& p1) <<< (1 &&& 31), x6 + 1))
set_option maxRecDepth 100000 in
set_option maxHeartbeats 4000000 in
theorem m_X3_placesBehindItem_j33_ok {Z : Zx} {K : ((Int32 × Int32 × Int32) ⊕ ((Int32))) → Prop} (C : Cx Z cX3_placesBehindItem 7 RX3) (hR : RM Z 0 0) (p1 : Int32) (p2 : Int32) (p3 : Int32) (x4 : Int32) (x5 : Int32) (x6 : Int32) (I : Mem) (hB : ∀ a, K (.inl a) → WM Z I 9 [some (.int p1), some (.int p2), some (.int p3), none, some (.int a.1), some (.int a.2.1), some (.int a.2.2)] []) (hX0 : ∀ b, K (.inr (b)) → WM Z I 47 [none, none, none, none, some (.int b), none, none] []) : WF Z K (m_X3_placesBehindItem_j33 p1 p2 p3 x4 x5 x6 I) I 33 [some (.int p1), some (.int p2), some (.int p3), none, some (.int x4), some (.int x5), some (.int x6)] [] := by
  unfold m_X3_placesBehindItem_j33
  refine w_iload (v := x5) C dX3_placesBehindItem_33 rfl (q := 35) rfl ?_
  refine w_iload_n (v := p1) C dX3_placesBehindItem_35 rfl (q := 36) rfl ?_
  refine w_iand C dX3_placesBehindItem_36 (q := 37) rfl ?_
  refine w_iconst (v := (1)) C dX3_placesBehindItem_37 (by decide) (q := 38) rfl ?_
  refine w_ishl C dX3_placesBehindItem_38 (q := 39) rfl ?_
  refine w_istore C dX3_placesBehindItem_39 (Nat.le_of_ble_eq_true rfl) (L' := [some (.int p1), some (.int p2), some (.int p3), none, some (.int x4), some (.int ((x5 &&& p1) <<< (1 &&& 31))), some (.int x6)]) rfl (q := 41) rfl ?_
  refine w_iinc (v := x6 + 1) C dX3_placesBehindItem_41 rfl rfl (L' := [some (.int p1), some (.int p2), some (.int p3), none, some (.int x4), some (.int ((x5 &&& p1) <<< (1 &&& 31))), some (.int (x6 + 1))]) rfl (q := 44) rfl ?_
  refine w_goto (tgt := 9) C dX3_placesBehindItem_44 (by decide) ?_
  exact w_jmp (fun h => WM.less (L' := [some (.int p1), some (.int p2), some (.int p3), none, some (.int x4), some (.int ((x5 &&& p1) <<< (1 &&& 31))), some (.int (x6 + 1))]) (hB _ h) ⟨rfl, rfl, rfl, rfl, rfl, rfl, trivial⟩)
def m_X3_placesBehindItem_b9 (p1 : Int32) (p2 : Int32) (p3 : Int32) (x4 : Int32) (x5 : Int32) (x6 : Int32) (I : Mem) : Option ((Int32 × Int32 × Int32) ⊕ ((Int32))) :=
  if p3 < x6 then (some (.inr (x4))) else (if x5 = 0 then (some (.inr (x4))) else (if x6 < p2 then (m_X3_placesBehindItem_j33 p1 p2 p3 x4 x5 x6 I) else (m_X3_placesBehindItem_j33 p1 p2 p3 (x4 ||| x5) x5 x6 I)))
set_option maxRecDepth 100000 in
set_option maxHeartbeats 4000000 in
theorem m_X3_placesBehindItem_b9_ok {Z : Zx} {K : ((Int32 × Int32 × Int32) ⊕ ((Int32))) → Prop} (C : Cx Z cX3_placesBehindItem 7 RX3) (hR : RM Z 0 0) (p1 : Int32) (p2 : Int32) (p3 : Int32) (x4 : Int32) (x5 : Int32) (x6 : Int32) (I : Mem) (hB : ∀ a, K (.inl a) → WM Z I 9 [some (.int p1), some (.int p2), some (.int p3), none, some (.int a.1), some (.int a.2.1), some (.int a.2.2)] []) (hX0 : ∀ b, K (.inr (b)) → WM Z I 47 [none, none, none, none, some (.int b), none, none] []) : WF Z K (m_X3_placesBehindItem_b9 p1 p2 p3 x4 x5 x6 I) I 9 [some (.int p1), some (.int p2), some (.int p3), none, some (.int x4), some (.int x5), some (.int x6)] [] := by
  unfold m_X3_placesBehindItem_b9
  refine w_iload (v := x6) C dX3_placesBehindItem_9 rfl (q := 11) rfl ?_
  refine w_iload_n (v := p3) C dX3_placesBehindItem_11 rfl (q := 12) rfl ?_
  refine w_icmp_gt (tgt := 47) (q := 15) C dX3_placesBehindItem_12 (by decide) rfl (fun _ => ?_) (fun _ => ?_)
  · exact w_jmp (fun h => WM.less (L' := [none, none, none, none, some (.int x4), none, none]) (hX0 _ h) ⟨rfl, trivial⟩)
  · refine w_iload (v := x5) C dX3_placesBehindItem_15 rfl (q := 17) rfl ?_
    refine w_if_eq (tgt := 47) (q := 20) C dX3_placesBehindItem_17 (by decide) rfl (fun _ => ?_) (fun _ => ?_)
    · exact w_jmp (fun h => WM.less (L' := [none, none, none, none, some (.int x4), none, none]) (hX0 _ h) ⟨rfl, trivial⟩)
    · refine w_iload (v := x6) C dX3_placesBehindItem_20 rfl (q := 22) rfl ?_
      refine w_iload_n (v := p2) C dX3_placesBehindItem_22 rfl (q := 23) rfl ?_
      refine w_icmp_lt (tgt := 33) (q := 26) C dX3_placesBehindItem_23 (by decide) rfl (fun _ => ?_) (fun _ => ?_)
      · exact WF.less (L' := [some (.int p1), some (.int p2), some (.int p3), none, some (.int x4), some (.int x5), some (.int x6)]) (m_X3_placesBehindItem_j33_ok C hR p1 p2 p3 x4 x5 x6  I hB hX0) ⟨rfl, rfl, rfl, rfl, rfl, rfl, trivial⟩
      · refine w_iload (v := x4) C dX3_placesBehindItem_26 rfl (q := 28) rfl ?_
        refine w_iload (v := x5) C dX3_placesBehindItem_28 rfl (q := 30) rfl ?_
        refine w_ior C dX3_placesBehindItem_30 (q := 31) rfl ?_
        refine w_istore C dX3_placesBehindItem_31 (Nat.le_of_ble_eq_true rfl) (L' := [some (.int p1), some (.int p2), some (.int p3), none, some (.int (x4 ||| x5)), some (.int x5), some (.int x6)]) rfl (q := 33) rfl ?_
        exact WF.less (L' := [some (.int p1), some (.int p2), some (.int p3), none, some (.int (x4 ||| x5)), some (.int x5), some (.int x6)]) (m_X3_placesBehindItem_j33_ok C hR p1 p2 p3 (x4 ||| x5) x5 x6  I hB hX0) ⟨rfl, rfl, rfl, rfl, rfl, rfl, trivial⟩
def m_X3_placesBehindItem (p1 : Int32) (p2 : Int32) (p3 : Int32) (p4 : Int32) (I : Mem) : Option (Int32) :=
  Option.bind (loopF (fun a => m_X3_placesBehindItem_b9 p1 p2 p3 a.1 a.2.1 a.2.2 I) FU ((0 : Int32), p4, (0 : Int32))) (fun b1 => some b1)
set_option maxRecDepth 100000 in
set_option maxHeartbeats 4000000 in
theorem m_X3_placesBehindItem_ok {Z : Zx} {K : Int32 → Prop} (C : Cx Z cX3_placesBehindItem 7 RX3) (hR : RM Z 0 0) (p1 : Int32) (p2 : Int32) (p3 : Int32) (p4 : Int32) (I : Mem) (hK : ∀ y, K (y) → RetI Z cX3_placesBehindItem .int y I) : WF Z K (m_X3_placesBehindItem p1 p2 p3 p4 I) I 0 [some (.int p1), some (.int p2), some (.int p3), some (.int p4), none, none, none] [] := by
  unfold m_X3_placesBehindItem
  refine w_iconst (v := (0)) C dX3_placesBehindItem_0 (by decide) (q := 1) rfl ?_
  refine w_istore C dX3_placesBehindItem_1 (Nat.le_of_ble_eq_true rfl) (L' := [some (.int p1), some (.int p2), some (.int p3), some (.int p4), some (.int 0), none, none]) rfl (q := 3) rfl ?_
  refine w_iload_n (v := p4) C dX3_placesBehindItem_3 rfl (q := 4) rfl ?_
  refine w_istore C dX3_placesBehindItem_4 (Nat.le_of_ble_eq_true rfl) (L' := [some (.int p1), some (.int p2), some (.int p3), some (.int p4), some (.int 0), some (.int p4), none]) rfl (q := 6) rfl ?_
  refine w_iconst (v := (0)) C dX3_placesBehindItem_6 (by decide) (q := 7) rfl ?_
  refine w_istore C dX3_placesBehindItem_7 (Nat.le_of_ble_eq_true rfl) (L' := [some (.int p1), some (.int p2), some (.int p3), some (.int p4), some (.int 0), some (.int p4), some (.int 0)]) rfl (q := 9) rfl ?_
  refine WF.less (L' := [some (.int p1), some (.int p2), some (.int p3), none, some (.int 0), some (.int p4), some (.int 0)]) (w_loopF (pc := 9) (a := ((0 : Int32), p4, (0 : Int32))) (mem := fun a => I) (lo := fun a => [some (.int p1), some (.int p2), some (.int p3), none, some (.int a.1), some (.int a.2.1), some (.int a.2.2)]) (E := fun b1 => WM Z I 47 [none, none, none, none, some (.int b1), none, none] []) (fun a => m_X3_placesBehindItem_b9_ok C hR p1 p2 p3 a.1 a.2.1 a.2.2  I (fun _ h => h) (fun _ h => h)) ?_) ⟨rfl, rfl, rfl, rfl, rfl, rfl, trivial⟩
  intro b1
  refine w_hx ?_
  refine w_iload (v := b1) C dX3_placesBehindItem_47 rfl (q := 49) rfl ?_
  exact w_iret C (hK _) rfl dX3_placesBehindItem_49
theorem c_X3_placesBehindItem (l : Launch) (G : Gx) (p1 : Int32) (p2 : Int32) (p3 : Int32) (p4 : Int32)  (I : Mem) {x : Int32} (h : m_X3_placesBehindItem p1 p2 p3 p4 I = some x) : Ct l G yX3_placesBehindItem cX3_placesBehindItem 7 (some (.int)) 0 0 [.int p1, .int p2, .int p3, .int p4] I (some (.int x)) I := Ct.of (by decide +kernel) rfl (Nat.le_of_ble_eq_true rfl) ret_i (fun Z hG hl C hR hret => by
  subst hG
  exact m_X3_placesBehindItem_ok (K := fun y => y = x) C hR p1 p2 p3 p4  I (fun y hy => by subst hy; exact hret) x h rfl)
