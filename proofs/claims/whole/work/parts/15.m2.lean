def m_X3_placesBeforePass_j129 (k : Nat) (p1 : Nat) (x4 : Int32) (y0 : Int32) (I : Mem) : Option ((Int32 × Int32 × Mem) ⊕ ((Int32 × Mem))) :=
  some (.inl (y0, x4 + (-1), I))
set_option maxRecDepth 100000 in
set_option maxHeartbeats 4000000 in
theorem m_X3_placesBeforePass_j129_ok {Z : Zx} {K : ((Int32 × Int32 × Mem) ⊕ ((Int32 × Mem))) → Prop} (C : Cx Z cX3_placesBeforePass 8 RX3) (hR : RM Z 1 27) (k : Nat) (p1 : Nat) (x4 : Int32) (y0 : Int32) (hk : isO k 3) (hp1 : isO p1 0) (I : Mem) (hB : ∀ a, K (.inl a) → WM Z a.2.2 20 [some (rf (zG Z) k), some (rf (zG Z) p1), none, some (.int a.1), some (.int a.2.1), none, none, none] []) (hX0 : ∀ b, K (.inr (b)) → WM Z b.2 136 [none, none, none, some (.int b.1), none, none, none, none] []) : WF Z K (m_X3_placesBeforePass_j129 k p1 x4 y0 I) I 129 [some (rf (zG Z) k), some (rf (zG Z) p1), none, none, some (.int x4), none, none, none] [.int y0] := by
  unfold m_X3_placesBeforePass_j129
  refine w_istore_n C dX3_placesBeforePass_129 (Nat.le_of_ble_eq_true rfl) (L' := [some (rf (zG Z) k), some (rf (zG Z) p1), none, some (.int y0), some (.int x4), none, none, none]) rfl (q := 130) rfl ?_
  refine w_iinc (v := x4 + (-1)) C dX3_placesBeforePass_130 rfl rfl (L' := [some (rf (zG Z) k), some (rf (zG Z) p1), none, some (.int y0), some (.int (x4 + (-1))), none, none, none]) rfl (q := 133) rfl ?_
  refine w_goto (tgt := 20) C dX3_placesBeforePass_133 (by decide) ?_
  exact w_jmp (fun h => WM.less (L' := [some (rf (zG Z) k), some (rf (zG Z) p1), none, some (.int y0), some (.int (x4 + (-1))), none, none, none]) (hB _ h) ⟨rfl, rfl, rfl, rfl, trivial⟩)
def m_X3_placesBeforePass_j114 (k : Nat) (p1 : Nat) (x3 : Int32) (x4 : Int32) (x6 : Int32) (x7 : Int32) (y0 : Nat) (y1 : Int32) (y2 : Int32) (I : Mem) : Option ((Int32 × Int32 × Mem) ⊕ ((Int32 × Mem))) :=
  gd (inb y1 11) (bnd (ms I y0 y1.toNatClampNeg y2) fun I5 => if x7 = 0 then (m_X3_placesBeforePass_j129 k p1 x4 x6 I5) else (m_X3_placesBeforePass_j129 k p1 x4 (x6 ||| x3) I5))
set_option maxRecDepth 100000 in
set_option maxHeartbeats 4000000 in
theorem m_X3_placesBeforePass_j114_ok {Z : Zx} {K : ((Int32 × Int32 × Mem) ⊕ ((Int32 × Mem))) → Prop} (C : Cx Z cX3_placesBeforePass 8 RX3) (hR : RM Z 1 27) (k : Nat) (p1 : Nat) (x3 : Int32) (x4 : Int32) (x6 : Int32) (x7 : Int32) (y0 : Nat) (y1 : Int32) (y2 : Int32) (hk : isO k 3) (hp1 : isO p1 0) (hy0 : isA y0 0 11) (I : Mem) (hB : ∀ a, K (.inl a) → WM Z a.2.2 20 [some (rf (zG Z) k), some (rf (zG Z) p1), none, some (.int a.1), some (.int a.2.1), none, none, none] []) (hX0 : ∀ b, K (.inr (b)) → WM Z b.2 136 [none, none, none, some (.int b.1), none, none, none, none] []) : WF Z K (m_X3_placesBeforePass_j114 k p1 x3 x4 x6 x7 y0 y1 y2 I) I 114 [some (rf (zG Z) k), some (rf (zG Z) p1), none, some (.int x3), some (.int x4), none, some (.int x6), some (.int x7)] [.int y2, .int y1, rf (zG Z) y0] := by
  unfold m_X3_placesBeforePass_j114
  refine w_iast C hy0 dX3_placesBeforePass_114 (q := 115) rfl (fun _ I5 => ?_)
  refine w_iload (v := x7) C dX3_placesBeforePass_115 rfl (q := 117) rfl ?_
  refine w_if_eq (tgt := 127) (q := 120) C dX3_placesBeforePass_117 (by decide) rfl (fun _ => ?_) (fun _ => ?_)
  · refine w_iload (v := x6) C dX3_placesBeforePass_127 rfl (q := 129) rfl ?_
    exact WF.less (L' := [some (rf (zG Z) k), some (rf (zG Z) p1), none, none, some (.int x4), none, none, none]) (m_X3_placesBeforePass_j129_ok C hR k p1 x4 x6 hk hp1 I5 hB hX0) ⟨rfl, rfl, rfl, trivial⟩
  · refine w_iload (v := x6) C dX3_placesBeforePass_120 rfl (q := 122) rfl ?_
    refine w_iload_n (v := x3) C dX3_placesBeforePass_122 rfl (q := 123) rfl ?_
    refine w_ior C dX3_placesBeforePass_123 (q := 124) rfl ?_
    refine w_goto (tgt := 129) C dX3_placesBeforePass_124 (by decide) ?_
    exact WF.less (L' := [some (rf (zG Z) k), some (rf (zG Z) p1), none, none, some (.int x4), none, none, none]) (m_X3_placesBeforePass_j129_ok C hR k p1 x4 (x6 ||| x3) hk hp1 I5 hB hX0) ⟨rfl, rfl, rfl, trivial⟩
def m_X3_placesBeforePass_j84 (k : Nat) (p1 : Nat) (x3 : Int32) (x4 : Int32) (x6 : Int32) (y0 : Int32) (I : Mem) : Option ((Int32 × Int32 × Mem) ⊕ ((Int32 × Mem))) :=
  if y0 = 0 then (m_X3_placesBeforePass_j114 k p1 x3 x4 x6 y0 (k + 4) x4 x6 I) else (gd (inb (x4 + 1) 11) (m_X3_placesBeforePass_j114 k p1 x3 x4 x6 y0 (k + 4) x4 (x6 ||| (I (k + 4) (x4 + 1).toNatClampNeg)) I))
set_option maxRecDepth 100000 in
set_option maxHeartbeats 4000000 in
theorem m_X3_placesBeforePass_j84_ok {Z : Zx} {K : ((Int32 × Int32 × Mem) ⊕ ((Int32 × Mem))) → Prop} (C : Cx Z cX3_placesBeforePass 8 RX3) (hR : RM Z 1 27) (k : Nat) (p1 : Nat) (x3 : Int32) (x4 : Int32) (x6 : Int32) (y0 : Int32) (hk : isO k 3) (hp1 : isO p1 0) (I : Mem) (hB : ∀ a, K (.inl a) → WM Z a.2.2 20 [some (rf (zG Z) k), some (rf (zG Z) p1), none, some (.int a.1), some (.int a.2.1), none, none, none] []) (hX0 : ∀ b, K (.inr (b)) → WM Z b.2 136 [none, none, none, some (.int b.1), none, none, none, none] []) : WF Z K (m_X3_placesBeforePass_j84 k p1 x3 x4 x6 y0 I) I 84 [some (rf (zG Z) k), some (rf (zG Z) p1), none, some (.int x3), some (.int x4), none, some (.int x6), none] [.int y0] := by
  unfold m_X3_placesBeforePass_j84
  refine w_istore C dX3_placesBeforePass_84 (Nat.le_of_ble_eq_true rfl) (L' := [some (rf (zG Z) k), some (rf (zG Z) p1), none, some (.int x3), some (.int x4), none, some (.int x6), some (.int y0)]) rfl (q := 86) rfl ?_
  refine w_aload_n (v := k) C dX3_placesBeforePass_86 rfl (q := 87) rfl ?_
  refine g_X3_4 C hk lk_X3_21 dX3_placesBeforePass_87 (q := 90) rfl ?_
  refine w_iload (v := x4) C dX3_placesBeforePass_90 rfl (q := 92) rfl ?_
  refine w_iload (v := y0) C dX3_placesBeforePass_92 rfl (q := 94) rfl ?_
  refine w_if_eq (tgt := 112) (q := 97) C dX3_placesBeforePass_94 (by decide) rfl (fun _ => ?_) (fun _ => ?_)
  · refine w_iload (v := x6) C dX3_placesBeforePass_112 rfl (q := 114) rfl ?_
    exact WF.less (L' := [some (rf (zG Z) k), some (rf (zG Z) p1), none, some (.int x3), some (.int x4), none, some (.int x6), some (.int y0)]) (m_X3_placesBeforePass_j114_ok C hR k p1 x3 x4 x6 y0 (k + 4) x4 x6 hk hp1 (st_X3_4 hk).2 I hB hX0) ⟨rfl, rfl, rfl, rfl, rfl, rfl, trivial⟩
  · refine w_iload (v := x6) C dX3_placesBeforePass_97 rfl (q := 99) rfl ?_
    refine w_aload_n (v := k) C dX3_placesBeforePass_99 rfl (q := 100) rfl ?_
    refine g_X3_4 C hk lk_X3_21 dX3_placesBeforePass_100 (q := 103) rfl ?_
    refine w_iload (v := x4) C dX3_placesBeforePass_103 rfl (q := 105) rfl ?_
    refine w_iconst (v := (1)) C dX3_placesBeforePass_105 (by decide) (q := 106) rfl ?_
    refine w_iadd C dX3_placesBeforePass_106 (q := 107) rfl ?_
    refine w_iald C (st_X3_4 hk).2 dX3_placesBeforePass_107 (q := 108) rfl (fun _ => ?_)
    refine w_ior C dX3_placesBeforePass_108 (q := 109) rfl ?_
    refine w_goto (tgt := 114) C dX3_placesBeforePass_109 (by decide) ?_
    exact WF.less (L' := [some (rf (zG Z) k), some (rf (zG Z) p1), none, some (.int x3), some (.int x4), none, some (.int x6), some (.int y0)]) (m_X3_placesBeforePass_j114_ok C hR k p1 x3 x4 x6 y0 (k + 4) x4 (x6 ||| (I (k + 4) (x4 + 1).toNatClampNeg)) hk hp1 (st_X3_4 hk).2 I hB hX0) ⟨rfl, rfl, rfl, rfl, rfl, rfl, trivial⟩
def m_X3_placesBeforePass_b20 (k : Nat) (p1 : Nat) (x3 : Int32) (x4 : Int32) (I : Mem) : Option ((Int32 × Int32 × Mem) ⊕ ((Int32 × Mem))) :=
  if x4 < I p1 1 then (some (.inr ((x3, I)))) else (Option.bind (m_X8_itemAt (k - 32) x4 I) fun r2 => gd (iO r2 2) (gd (inb (x4 + 1) 11) (Option.bind (m_X3_placesBeforeItem k x4 (if I r2 1 < 1 then 1 else I r2 1) (I r2 2) (I (k + 4) (x4 + 1).toNatClampNeg) I) fun r4 => if I r2 1 = 0 then (m_X3_placesBeforePass_j84 k p1 x3 x4 r4 ((1 : Int32)) I) else (m_X3_placesBeforePass_j84 k p1 x3 x4 r4 ((0 : Int32)) I))))
set_option maxRecDepth 100000 in
set_option maxHeartbeats 4000000 in
theorem m_X3_placesBeforePass_b20_ok {Z : Zx} {K : ((Int32 × Int32 × Mem) ⊕ ((Int32 × Mem))) → Prop} (C : Cx Z cX3_placesBeforePass 8 RX3) (hR : RM Z 1 27) (k : Nat) (p1 : Nat) (x3 : Int32) (x4 : Int32) (hk : isO k 3) (hp1 : isO p1 0) (I : Mem) (hB : ∀ a, K (.inl a) → WM Z a.2.2 20 [some (rf (zG Z) k), some (rf (zG Z) p1), none, some (.int a.1), some (.int a.2.1), none, none, none] []) (hX0 : ∀ b, K (.inr (b)) → WM Z b.2 136 [none, none, none, some (.int b.1), none, none, none, none] []) : WF Z K (m_X3_placesBeforePass_b20 k p1 x3 x4 I) I 20 [some (rf (zG Z) k), some (rf (zG Z) p1), none, some (.int x3), some (.int x4), none, none, none] [] := by
  unfold m_X3_placesBeforePass_b20
  refine w_iload (v := x4) C dX3_placesBeforePass_20 rfl (q := 22) rfl ?_
  refine w_aload_n (v := p1) C dX3_placesBeforePass_22 rfl (q := 23) rfl ?_
  refine gN_X0_1 C hp1 lk_X3_103 dX3_placesBeforePass_23 (q := 26) rfl ?_
  refine w_icmp_lt (tgt := 136) (q := 29) C dX3_placesBeforePass_26 (by decide) rfl (fun _ => ?_) (fun _ => ?_)
  · exact w_jmp (fun h => WM.less (L' := [none, none, none, some (.int x3), none, none, none, none]) (hX0 _ h) ⟨rfl, trivial⟩)
  · refine w_aload_n (v := k) C dX3_placesBeforePass_29 rfl (q := 30) rfl ?_
    refine g_X3_0 C hk lk_X3_24 dX3_placesBeforePass_30 (q := 33) rfl ?_
    refine w_iload (v := x4) C dX3_placesBeforePass_33 rfl (q := 35) rfl ?_
    refine w_callV (val := fun r2 => some (rf (zG Z) r2)) (mem := fun r2 => I) (st1 := fun r2 => [rf (zG Z) r2]) (As := [.int x4]) (st := []) (q := 38) C hR (fun x h => c_X8_itemAt (zl Z) (zG Z) x4 (st_X3_0 hk).2 I h) (st_X3_0 hk).2 mv_X8_itemAt lk_X3_88 rfl (by decide) (fun _ => rfl) (Nat.le_of_ble_eq_true rfl) rfl rfl dX3_placesBeforePass_35 rfl (fun r2 => ?_)
    refine w_gd (fun h3 => ?_)
    refine w_astore C dX3_placesBeforePass_38 (Nat.le_of_ble_eq_true rfl) (L' := [some (rf (zG Z) k), some (rf (zG Z) p1), none, some (.int x3), some (.int x4), some (rf (zG Z) r2), none, none]) rfl (q := 40) rfl ?_
    refine w_aload_n (v := k) C dX3_placesBeforePass_40 rfl (q := 41) rfl ?_
    refine w_iload (v := x4) C dX3_placesBeforePass_41 rfl (q := 43) rfl ?_
    refine w_aload (v := r2) C dX3_placesBeforePass_43 rfl (q := 45) rfl ?_
    refine gN_X2_1 C (iO_of h3) lk_X3_106 dX3_placesBeforePass_45 (q := 48) rfl ?_
    refine w_iconst (v := (1)) C dX3_placesBeforePass_48 (by decide) (q := 49) rfl ?_
    refine w_mmax C hR lk_X3_107 mm_max_s mm_i mm_max_c (by decide) (Nat.le_of_ble_eq_true rfl) rfl dX3_placesBeforePass_49 (q := 52) rfl ?_
    refine w_aload (v := r2) C dX3_placesBeforePass_52 rfl (q := 54) rfl ?_
    refine gN_X2_2 C (iO_of h3) lk_X3_113 dX3_placesBeforePass_54 (q := 57) rfl ?_
    refine w_aload_n (v := k) C dX3_placesBeforePass_57 rfl (q := 58) rfl ?_
    refine g_X3_4 C hk lk_X3_21 dX3_placesBeforePass_58 (q := 61) rfl ?_
    refine w_iload (v := x4) C dX3_placesBeforePass_61 rfl (q := 63) rfl ?_
    refine w_iconst (v := (1)) C dX3_placesBeforePass_63 (by decide) (q := 64) rfl ?_
    refine w_iadd C dX3_placesBeforePass_64 (q := 65) rfl ?_
    refine w_iald C (st_X3_4 hk).2 dX3_placesBeforePass_65 (q := 66) rfl (fun _ => ?_)
    refine w_callV (val := fun r4 => some (.int r4)) (mem := fun r4 => I) (st1 := fun r4 => [.int r4]) (As := [.int x4, .int (if I r2 1 < 1 then 1 else I r2 1), .int (I r2 2), .int (I (k + 4) (x4 + 1).toNatClampNeg)]) (st := []) (q := 69) C hR (fun x h => c_X3_placesBeforeItem (zl Z) (zG Z) x4 (if I r2 1 < 1 then 1 else I r2 1) (I r2 2) (I (k + 4) (x4 + 1).toNatClampNeg) hk I h) hk mv_X3_placesBeforeItem lk_X3_114 rfl (by decide) (fun _ => rfl) (Nat.le_of_ble_eq_true rfl) rfl rfl dX3_placesBeforePass_66 rfl (fun r4 => ?_)
    refine w_istore C dX3_placesBeforePass_69 (Nat.le_of_ble_eq_true rfl) (L' := [some (rf (zG Z) k), some (rf (zG Z) p1), none, some (.int x3), some (.int x4), some (rf (zG Z) r2), some (.int r4), none]) rfl (q := 71) rfl ?_
    refine w_aload (v := r2) C dX3_placesBeforePass_71 rfl (q := 73) rfl ?_
    refine gN_X2_1 C (iO_of h3) lk_X3_106 dX3_placesBeforePass_73 (q := 76) rfl ?_
    refine w_if_ne (tgt := 83) (q := 79) C dX3_placesBeforePass_76 (by decide) rfl (fun _ => ?_) (fun _ => ?_)
    · refine w_iconst (v := (1)) C dX3_placesBeforePass_79 (by decide) (q := 80) rfl ?_
      refine w_goto (tgt := 84) C dX3_placesBeforePass_80 (by decide) ?_
      exact WF.less (L' := [some (rf (zG Z) k), some (rf (zG Z) p1), none, some (.int x3), some (.int x4), none, some (.int r4), none]) (m_X3_placesBeforePass_j84_ok C hR k p1 x3 x4 r4 ((1 : Int32)) hk hp1 I hB hX0) ⟨rfl, rfl, rfl, rfl, rfl, trivial⟩
    · refine w_iconst (v := (0)) C dX3_placesBeforePass_83 (by decide) (q := 84) rfl ?_
      exact WF.less (L' := [some (rf (zG Z) k), some (rf (zG Z) p1), none, some (.int x3), some (.int x4), none, some (.int r4), none]) (m_X3_placesBeforePass_j84_ok C hR k p1 x3 x4 r4 ((0 : Int32)) hk hp1 I hB hX0) ⟨rfl, rfl, rfl, rfl, rfl, trivial⟩
def m_X3_placesBeforePass (k : Nat) (p1 : Nat) (p2 : Int32) (I : Mem) : Option (Int32 × Mem) :=
  gd (inb (I p1 2) 11) (bnd (ms I (k + 4) (I p1 2).toNatClampNeg p2) fun I1 => Option.bind (loopF (fun a => m_X3_placesBeforePass_b20 k p1 a.1 a.2.1 a.2.2) FU ((0 : Int32), (I1 p1 2) - 1, I1)) (fun b6 => some ((b6.1, b6.2))))
set_option maxRecDepth 100000 in
set_option maxHeartbeats 4000000 in
theorem m_X3_placesBeforePass_ok {Z : Zx} {K : (Int32 × Mem) → Prop} (C : Cx Z cX3_placesBeforePass 8 RX3) (hR : RM Z 1 27) (k : Nat) (p1 : Nat) (p2 : Int32) (hk : isO k 3) (hp1 : isO p1 0) (I : Mem) (hK : ∀ y, K (y) → RetI Z cX3_placesBeforePass .int y.1 y.2) : WF Z K (m_X3_placesBeforePass k p1 p2 I) I 0 [some (rf (zG Z) k), some (rf (zG Z) p1), some (.int p2), none, none, none, none, none] [] := by
  unfold m_X3_placesBeforePass
  refine w_iconst (v := (0)) C dX3_placesBeforePass_0 (by decide) (q := 1) rfl ?_
  refine w_istore_n C dX3_placesBeforePass_1 (Nat.le_of_ble_eq_true rfl) (L' := [some (rf (zG Z) k), some (rf (zG Z) p1), some (.int p2), some (.int 0), none, none, none, none]) rfl (q := 2) rfl ?_
  refine w_aload_n (v := k) C dX3_placesBeforePass_2 rfl (q := 3) rfl ?_
  refine g_X3_4 C hk lk_X3_21 dX3_placesBeforePass_3 (q := 6) rfl ?_
  refine w_aload_n (v := p1) C dX3_placesBeforePass_6 rfl (q := 7) rfl ?_
  refine gN_X0_2 C hp1 lk_X3_100 dX3_placesBeforePass_7 (q := 10) rfl ?_
  refine w_iload_n (v := p2) C dX3_placesBeforePass_10 rfl (q := 11) rfl ?_
  refine w_iast C (st_X3_4 hk).2 dX3_placesBeforePass_11 (q := 12) rfl (fun _ I1 => ?_)
  refine w_aload_n (v := p1) C dX3_placesBeforePass_12 rfl (q := 13) rfl ?_
  refine gN_X0_2 C hp1 lk_X3_100 dX3_placesBeforePass_13 (q := 16) rfl ?_
  refine w_iconst (v := (1)) C dX3_placesBeforePass_16 (by decide) (q := 17) rfl ?_
  refine w_isub C dX3_placesBeforePass_17 (q := 18) rfl ?_
  refine w_istore C dX3_placesBeforePass_18 (Nat.le_of_ble_eq_true rfl) (L' := [some (rf (zG Z) k), some (rf (zG Z) p1), some (.int p2), some (.int 0), some (.int ((I1 p1 2) - 1)), none, none, none]) rfl (q := 20) rfl ?_
  refine WF.less (L' := [some (rf (zG Z) k), some (rf (zG Z) p1), none, some (.int 0), some (.int ((I1 p1 2) - 1)), none, none, none]) (w_loopF (pc := 20) (a := ((0 : Int32), (I1 p1 2) - 1, I1)) (mem := fun a => a.2.2) (lo := fun a => [some (rf (zG Z) k), some (rf (zG Z) p1), none, some (.int a.1), some (.int a.2.1), none, none, none]) (E := fun b6 => WM Z b6.2 136 [none, none, none, some (.int b6.1), none, none, none, none] []) (fun a => m_X3_placesBeforePass_b20_ok C hR k p1 a.1 a.2.1 hk hp1 a.2.2 (fun _ h => h) (fun _ h => h)) ?_) ⟨rfl, rfl, rfl, rfl, trivial⟩
  intro b6
  refine w_hx ?_
  refine w_iload_n (v := b6.1) C dX3_placesBeforePass_136 rfl (q := 137) rfl ?_
  exact w_iret C (hK _) rfl dX3_placesBeforePass_137
theorem c_X3_placesBeforePass (l : Launch) (G : Gx) {k : Nat} {p1 : Nat} (p2 : Int32) (hk : isO k 3) (hp1 : isO p1 0) (I : Mem) {x : Int32 × Mem} (h : m_X3_placesBeforePass k p1 p2 I = some x) : Ct l G yX3_placesBeforePass cX3_placesBeforePass 8 (some (.int)) 1 27 [rf G k, rf G p1, .int p2] I (some (.int x.1)) x.2 := Ct.of (by decide +kernel) rfl (Nat.le_of_ble_eq_true rfl) ret_i (fun Z hG hl C hR hret => by
  subst hG
  exact m_X3_placesBeforePass_ok (K := fun y => y = x) C hR k p1 p2 hk hp1 I (fun y hy => by subst hy; exact hret) x h rfl)
def m_X3_findAfters_j58 (k : Nat) (p1 : Nat) (p2 : Int32) (x3 : Int32) (y0 : Nat) (y1 : Int32) (y2 : Int32) (I : Mem) : Option ((Int32 × Mem) ⊕ ((Mem))) :=
  gd (inb y1 10) (bnd (ms I y0 y1.toNatClampNeg y2) fun I3 => some (.inl (x3 + (-1), I3)))
set_option maxRecDepth 100000 in
set_option maxHeartbeats 4000000 in
theorem m_X3_findAfters_j58_ok {Z : Zx} {K : ((Int32 × Mem) ⊕ ((Mem))) → Prop} (C : Cx Z cX3_findAfters 5 RX3) (hR : RM Z 2 54) (k : Nat) (p1 : Nat) (p2 : Int32) (x3 : Int32) (y0 : Nat) (y1 : Int32) (y2 : Int32) (hk : isO k 3) (hp1 : isO p1 0) (hy0 : isA y0 0 10) (I : Mem) (hB : ∀ a, K (.inl a) → WM Z a.2 17 [some (rf (zG Z) k), some (rf (zG Z) p1), some (.int p2), some (.int a.1), none] []) (hX0 : ∀ b, K (.inr (b)) → WM Z b 65 [none, none, none, none, none] []) : WF Z K (m_X3_findAfters_j58 k p1 p2 x3 y0 y1 y2 I) I 58 [some (rf (zG Z) k), some (rf (zG Z) p1), some (.int p2), some (.int x3), none] [.int y2, .int y1, rf (zG Z) y0] := by
  unfold m_X3_findAfters_j58
  refine w_iast C hy0 dX3_findAfters_58 (q := 59) rfl (fun _ I3 => ?_)
  refine w_iinc (v := x3 + (-1)) C dX3_findAfters_59 rfl rfl (L' := [some (rf (zG Z) k), some (rf (zG Z) p1), some (.int p2), some (.int (x3 + (-1))), none]) rfl (q := 62) rfl ?_
  refine w_goto (tgt := 17) C dX3_findAfters_62 (by decide) ?_
  exact w_jmp (fun h => WM.less (L' := [some (rf (zG Z) k), some (rf (zG Z) p1), some (.int p2), some (.int (x3 + (-1))), none]) (hB _ h) ⟨rfl, rfl, rfl, rfl, trivial⟩)
def m_X3_findAfters_b17 (k : Nat) (p1 : Nat) (p2 : Int32) (x3 : Int32) (I : Mem) : Option ((Int32 × Mem) ⊕ ((Mem))) :=
  if x3 < 0 then (some (.inr (I))) else (gd (inb (x3 + 1) 10) (Option.bind (m_X3_placesBeforePass k p1 (I (k + 3) (x3 + 1).toNatClampNeg) I) fun r2 => if x3 < r2.2 p1 3 then (m_X3_findAfters_j58 k p1 p2 x3 (k + 3) x3 r2.1 r2.2) else (m_X3_findAfters_j58 k p1 p2 x3 (k + 3) x3 (r2.1 ||| p2) r2.2)))
set_option maxRecDepth 100000 in
set_option maxHeartbeats 4000000 in
theorem m_X3_findAfters_b17_ok {Z : Zx} {K : ((Int32 × Mem) ⊕ ((Mem))) → Prop} (C : Cx Z cX3_findAfters 5 RX3) (hR : RM Z 2 54) (k : Nat) (p1 : Nat) (p2 : Int32) (x3 : Int32) (hk : isO k 3) (hp1 : isO p1 0) (I : Mem) (hB : ∀ a, K (.inl a) → WM Z a.2 17 [some (rf (zG Z) k), some (rf (zG Z) p1), some (.int p2), some (.int a.1), none] []) (hX0 : ∀ b, K (.inr (b)) → WM Z b 65 [none, none, none, none, none] []) : WF Z K (m_X3_findAfters_b17 k p1 p2 x3 I) I 17 [some (rf (zG Z) k), some (rf (zG Z) p1), some (.int p2), some (.int x3), none] [] := by
  unfold m_X3_findAfters_b17
  refine w_iload_n (v := x3) C dX3_findAfters_17 rfl (q := 18) rfl ?_
  refine w_if_lt (tgt := 65) (q := 21) C dX3_findAfters_18 (by decide) rfl (fun _ => ?_) (fun _ => ?_)
  · exact w_jmp (fun h => WM.less (L' := [none, none, none, none, none]) (hX0 _ h) trivial)
  · refine w_aload_n (v := k) C dX3_findAfters_21 rfl (q := 22) rfl ?_
    refine w_aload_n (v := p1) C dX3_findAfters_22 rfl (q := 23) rfl ?_
    refine w_aload_n (v := k) C dX3_findAfters_23 rfl (q := 24) rfl ?_
    refine g_X3_3 C hk lk_X3_18 dX3_findAfters_24 (q := 27) rfl ?_
    refine w_iload_n (v := x3) C dX3_findAfters_27 rfl (q := 28) rfl ?_
    refine w_iconst (v := (1)) C dX3_findAfters_28 (by decide) (q := 29) rfl ?_
    refine w_iadd C dX3_findAfters_29 (q := 30) rfl ?_
    refine w_iald C (st_X3_3 hk).2 dX3_findAfters_30 (q := 31) rfl (fun _ => ?_)
    refine w_callV (val := fun r2 => some (.int r2.1)) (mem := fun r2 => r2.2) (st1 := fun r2 => [.int r2.1]) (As := [rf (zG Z) p1, .int (I (k + 3) (x3 + 1).toNatClampNeg)]) (st := []) (q := 34) C hR (fun x h => c_X3_placesBeforePass (zl Z) (zG Z) (I (k + 3) (x3 + 1).toNatClampNeg) hk hp1 I h) hk mv_X3_placesBeforePass lk_X3_61 rfl (by decide) (fun _ => rfl) (Nat.le_of_ble_eq_true rfl) rfl rfl dX3_findAfters_31 rfl (fun r2 => ?_)
    refine w_istore C dX3_findAfters_34 (Nat.le_of_ble_eq_true rfl) (L' := [some (rf (zG Z) k), some (rf (zG Z) p1), some (.int p2), some (.int x3), some (.int r2.1)]) rfl (q := 36) rfl ?_
    refine w_aload_n (v := k) C dX3_findAfters_36 rfl (q := 37) rfl ?_
    refine g_X3_3 C hk lk_X3_18 dX3_findAfters_37 (q := 40) rfl ?_
    refine w_iload_n (v := x3) C dX3_findAfters_40 rfl (q := 41) rfl ?_
    refine w_iload_n (v := x3) C dX3_findAfters_41 rfl (q := 42) rfl ?_
    refine w_aload_n (v := p1) C dX3_findAfters_42 rfl (q := 43) rfl ?_
    refine gN_X0_3 C hp1 lk_X3_97 dX3_findAfters_43 (q := 46) rfl ?_
    refine w_icmp_lt (tgt := 56) (q := 49) C dX3_findAfters_46 (by decide) rfl (fun _ => ?_) (fun _ => ?_)
    · refine w_iload (v := r2.1) C dX3_findAfters_56 rfl (q := 58) rfl ?_
      exact WF.less (L' := [some (rf (zG Z) k), some (rf (zG Z) p1), some (.int p2), some (.int x3), none]) (m_X3_findAfters_j58_ok C hR k p1 p2 x3 (k + 3) x3 r2.1 hk hp1 (st_X3_3 hk).2 r2.2 hB hX0) ⟨rfl, rfl, rfl, rfl, trivial⟩
    · refine w_iload (v := r2.1) C dX3_findAfters_49 rfl (q := 51) rfl ?_
      refine w_iload_n (v := p2) C dX3_findAfters_51 rfl (q := 52) rfl ?_
      refine w_ior C dX3_findAfters_52 (q := 53) rfl ?_
      refine w_goto (tgt := 58) C dX3_findAfters_53 (by decide) ?_
      exact WF.less (L' := [some (rf (zG Z) k), some (rf (zG Z) p1), some (.int p2), some (.int x3), none]) (m_X3_findAfters_j58_ok C hR k p1 p2 x3 (k + 3) x3 (r2.1 ||| p2) hk hp1 (st_X3_3 hk).2 r2.2 hB hX0) ⟨rfl, rfl, rfl, rfl, trivial⟩
def m_X3_findAfters (k : Nat) (p1 : Nat) (p2 : Int32) (I : Mem) : Option (Mem) :=
  gd (inb (I p1 4) 10) (bnd (ms I (k + 3) (I p1 4).toNatClampNeg p2) fun I1 => Option.bind (loopF (fun a => m_X3_findAfters_b17 k p1 p2 a.1 a.2) FU ((I1 p1 4) - 1, I1)) (fun b4 => some b4))
set_option maxRecDepth 100000 in
set_option maxHeartbeats 4000000 in
theorem m_X3_findAfters_ok {Z : Zx} {K : Mem → Prop} (C : Cx Z cX3_findAfters 5 RX3) (hR : RM Z 2 54) (k : Nat) (p1 : Nat) (p2 : Int32) (hk : isO k 3) (hp1 : isO p1 0) (I : Mem) (hK : ∀ y, K (y) → RetV Z cX3_findAfters y) : WF Z K (m_X3_findAfters k p1 p2 I) I 0 [some (rf (zG Z) k), some (rf (zG Z) p1), some (.int p2), none, none] [] := by
  unfold m_X3_findAfters
  refine w_aload_n (v := k) C dX3_findAfters_0 rfl (q := 1) rfl ?_
  refine g_X3_3 C hk lk_X3_18 dX3_findAfters_1 (q := 4) rfl ?_
  refine w_aload_n (v := p1) C dX3_findAfters_4 rfl (q := 5) rfl ?_
  refine gN_X0_4 C hp1 lk_X3_55 dX3_findAfters_5 (q := 8) rfl ?_
  refine w_iload_n (v := p2) C dX3_findAfters_8 rfl (q := 9) rfl ?_
  refine w_iast C (st_X3_3 hk).2 dX3_findAfters_9 (q := 10) rfl (fun _ I1 => ?_)
  refine w_aload_n (v := p1) C dX3_findAfters_10 rfl (q := 11) rfl ?_
  refine gN_X0_4 C hp1 lk_X3_55 dX3_findAfters_11 (q := 14) rfl ?_
  refine w_iconst (v := (1)) C dX3_findAfters_14 (by decide) (q := 15) rfl ?_
  refine w_isub C dX3_findAfters_15 (q := 16) rfl ?_
  refine w_istore_n C dX3_findAfters_16 (Nat.le_of_ble_eq_true rfl) (L' := [some (rf (zG Z) k), some (rf (zG Z) p1), some (.int p2), some (.int ((I1 p1 4) - 1)), none]) rfl (q := 17) rfl ?_
  refine WF.less (L' := [some (rf (zG Z) k), some (rf (zG Z) p1), some (.int p2), some (.int ((I1 p1 4) - 1)), none]) (w_loopF (pc := 17) (a := ((I1 p1 4) - 1, I1)) (mem := fun a => a.2) (lo := fun a => [some (rf (zG Z) k), some (rf (zG Z) p1), some (.int p2), some (.int a.1), none]) (E := fun b4 => WM Z b4 65 [none, none, none, none, none] []) (fun a => m_X3_findAfters_b17_ok C hR k p1 p2 a.1 hk hp1 a.2 (fun _ h => h) (fun _ h => h)) ?_) ⟨rfl, rfl, rfl, rfl, trivial⟩
  intro b4
  refine w_hx ?_
  exact w_vret C (hK _) dX3_findAfters_65
theorem c_X3_findAfters (l : Launch) (G : Gx) {k : Nat} {p1 : Nat} (p2 : Int32) (hk : isO k 3) (hp1 : isO p1 0) (I : Mem) {x : Mem} (h : m_X3_findAfters k p1 p2 I = some x) : Ct l G yX3_findAfters cX3_findAfters 5 none 2 54 [rf G k, rf G p1, .int p2] I (none) x := Ct.of (by decide +kernel) rfl (Nat.le_of_ble_eq_true rfl) ret_v (fun Z hG hl C hR hret => by
  subst hG
  exact m_X3_findAfters_ok (K := fun y => y = x) C hR k p1 p2 hk hp1 I (fun y hy => by subst hy; exact hret) x h rfl)
def m_X4_bodyCount (k : Nat) (I : Mem) : Option (Int32) :=
  if 2 ≤ I k 2 then (some ((I k 2) - 2)) else (some 0)
set_option maxRecDepth 100000 in
set_option maxHeartbeats 4000000 in
theorem m_X4_bodyCount_ok {Z : Zx} {K : Int32 → Prop} (C : Cx Z cX4_bodyCount 1 RX4) (hR : RM Z 0 0) (k : Nat) (hk : isO k 4) (I : Mem) (hK : ∀ y, K (y) → RetI Z cX4_bodyCount .int y I) : WF Z K (m_X4_bodyCount k I) I 0 [some (rf (zG Z) k)] [] := by
  unfold m_X4_bodyCount
  refine w_aload_n (v := k) C dX4_bodyCount_0 rfl (q := 1) rfl ?_
  refine g_X4_2 C hk lk_X4_22 dX4_bodyCount_1 (q := 4) rfl ?_
  refine w_iconst (v := (2)) C dX4_bodyCount_4 (by decide) (q := 5) rfl ?_
  refine w_icmp_ge (tgt := 12) (q := 8) C dX4_bodyCount_5 (by decide) rfl (fun _ => ?_) (fun _ => ?_)
  · refine w_aload_n (v := k) C dX4_bodyCount_12 rfl (q := 13) rfl ?_
    refine g_X4_2 C hk lk_X4_22 dX4_bodyCount_13 (q := 16) rfl ?_
    refine w_iconst (v := (2)) C dX4_bodyCount_16 (by decide) (q := 17) rfl ?_
    refine w_isub C dX4_bodyCount_17 (q := 18) rfl ?_
    exact w_iret C (hK _) rfl dX4_bodyCount_18
  · refine w_iconst (v := (0)) C dX4_bodyCount_8 (by decide) (q := 9) rfl ?_
    refine w_goto (tgt := 18) C dX4_bodyCount_9 (by decide) ?_
    exact w_iret C (hK _) rfl dX4_bodyCount_18
theorem c_X4_bodyCount (l : Launch) (G : Gx) {k : Nat} (hk : isO k 4) (I : Mem) {x : Int32} (h : m_X4_bodyCount k I = some x) : Ct l G yX4_bodyCount cX4_bodyCount 1 (some (.int)) 0 0 [rf G k] I (some (.int x)) I := Ct.of (by decide +kernel) rfl (Nat.le_of_ble_eq_true rfl) ret_i (fun Z hG hl C hR hret => by
  subst hG
  exact m_X4_bodyCount_ok (K := fun y => y = x) C hR k hk I (fun y hy => by subst hy; exact hret) x h rfl)
def m_X4_bodyAt_j22 (k : Nat) (I : Mem) : Option (Nat) :=
  some (k + 2)
set_option maxRecDepth 100000 in
set_option maxHeartbeats 4000000 in
theorem m_X4_bodyAt_j22_ok {Z : Zx} {K : Nat → Prop} (C : Cx Z cX4_bodyAt 2 RX4) (hR : RM Z 1 21) (k : Nat) (hk : isO k 4) (I : Mem) (hK : ∀ y, K (y) → RetA Z cX4_bodyAt y I) : WF Z K (m_X4_bodyAt_j22 k I) I 22 [some (rf (zG Z) k), none] [] := by
  unfold m_X4_bodyAt_j22
  refine w_aload_n (v := k) C dX4_bodyAt_22 rfl (q := 23) rfl ?_
  refine g_X4_1 C hk lk_X4_18 dX4_bodyAt_23 (q := 26) rfl ?_
  exact w_aret C (hK _) dX4_bodyAt_26
def m_X4_bodyAt (k : Nat) (p1 : Int32) (I : Mem) : Option (Nat) :=
  if p1 < 0 then (m_X4_bodyAt_j22 k I) else (Option.bind (m_X4_bodyCount k I) fun r1 => if r1 ≤ p1 then (m_X4_bodyAt_j22 k I) else (Option.bind (m_X4_at k (p1 + 1) I) fun r2 => gd (iO r2 9) (some r2)))
set_option maxRecDepth 100000 in
set_option maxHeartbeats 4000000 in
theorem m_X4_bodyAt_ok {Z : Zx} {K : Nat → Prop} (C : Cx Z cX4_bodyAt 2 RX4) (hR : RM Z 1 21) (k : Nat) (p1 : Int32) (hk : isO k 4) (I : Mem) (hK : ∀ y, K (y) → RetA Z cX4_bodyAt y I) : WF Z K (m_X4_bodyAt k p1 I) I 0 [some (rf (zG Z) k), some (.int p1)] [] := by
  unfold m_X4_bodyAt
  refine w_iload_n (v := p1) C dX4_bodyAt_0 rfl (q := 1) rfl ?_
  refine w_if_lt (tgt := 22) (q := 4) C dX4_bodyAt_1 (by decide) rfl (fun _ => ?_) (fun _ => ?_)
  · exact WF.less (L' := [some (rf (zG Z) k), none]) (m_X4_bodyAt_j22_ok C hR k hk I hK) ⟨rfl, trivial⟩
  · refine w_iload_n (v := p1) C dX4_bodyAt_4 rfl (q := 5) rfl ?_
    refine w_aload_n (v := k) C dX4_bodyAt_5 rfl (q := 6) rfl ?_
    refine w_callV (val := fun r1 => some (.int r1)) (mem := fun r1 => I) (st1 := fun r1 => [.int r1, .int p1]) (As := []) (st := [.int p1]) (q := 9) C hR (fun x h => c_X4_bodyCount (zl Z) (zG Z)  hk I h) hk mv_X4_bodyCount lk_X4_30 rfl (by decide) (fun _ => rfl) (Nat.le_of_ble_eq_true rfl) rfl rfl dX4_bodyAt_6 rfl (fun r1 => ?_)
    refine w_icmp_ge (tgt := 22) (q := 12) C dX4_bodyAt_9 (by decide) rfl (fun _ => ?_) (fun _ => ?_)
    · exact WF.less (L' := [some (rf (zG Z) k), none]) (m_X4_bodyAt_j22_ok C hR k hk I hK) ⟨rfl, trivial⟩
    · refine w_aload_n (v := k) C dX4_bodyAt_12 rfl (q := 13) rfl ?_
      refine w_iload_n (v := p1) C dX4_bodyAt_13 rfl (q := 14) rfl ?_
      refine w_iconst (v := (1)) C dX4_bodyAt_14 (by decide) (q := 15) rfl ?_
      refine w_iadd C dX4_bodyAt_15 (q := 16) rfl ?_
      refine w_callV (val := fun r2 => some (rf (zG Z) r2)) (mem := fun r2 => I) (st1 := fun r2 => [rf (zG Z) r2]) (As := [.int (p1 + 1)]) (st := []) (q := 19) C hR (fun x h => c_X4_at (zl Z) (zG Z) (p1 + 1) hk I h) hk mv_X4_at lk_X4_26 rfl (by decide) (fun _ => rfl) (Nat.le_of_ble_eq_true rfl) rfl rfl dX4_bodyAt_16 rfl (fun r2 => ?_)
      refine w_gd (fun h3 => ?_)
      refine w_goto (tgt := 26) C dX4_bodyAt_19 (by decide) ?_
      exact w_aret C (hK _) dX4_bodyAt_26
theorem c_X4_bodyAt (l : Launch) (G : Gx) {k : Nat} (p1 : Int32) (hk : isO k 4) (I : Mem) {x : Nat} (h : m_X4_bodyAt k p1 I = some x) : Ct l G yX4_bodyAt cX4_bodyAt 2 (some (.object "Segmentry$Segment")) 1 21 [rf G k, .int p1] I (some (rf G x)) I := Ct.of (by decide +kernel) rfl (Nat.le_of_ble_eq_true rfl) ret_a (fun Z hG hl C hR hret => by
  subst hG
  exact m_X4_bodyAt_ok (K := fun y => y = x) C hR k p1 hk I (fun y hy => by subst hy; exact hret _ rfl) x h rfl)
def m_X9_mark (k : Nat) (I : Mem) : Option (Int32) :=
  gd (okc (I k 3)) (some (I k 3))
set_option maxRecDepth 100000 in
set_option maxHeartbeats 4000000 in
theorem m_X9_mark_ok {Z : Zx} {K : Int32 → Prop} (C : Cx Z cX9_mark 1 RX9) (hR : RM Z 0 0) (k : Nat) (hk : isO k 9) (I : Mem) (hK : ∀ y, K (y) → RetI Z cX9_mark .char y I) : WF Z K (m_X9_mark k I) I 0 [some (rf (zG Z) k)] [] := by
  unfold m_X9_mark
  refine w_aload_n (v := k) C dX9_mark_0 rfl (q := 1) rfl ?_
  refine g_X9_3 C hk lk_X9_19 dX9_mark_1 (q := 4) rfl ?_
  refine w_gd (fun h1 => ?_)
  exact w_iret C (hK _) (okc_n h1).1 dX9_mark_4
theorem c_X9_mark (l : Launch) (G : Gx) {k : Nat} (hk : isO k 9) (I : Mem) {x : Int32} (h : m_X9_mark k I = some x) : Ct l G yX9_mark cX9_mark 1 (some (.char)) 0 0 [rf G k] I (some (.int x)) I := Ct.of (by decide +kernel) rfl (Nat.le_of_ble_eq_true rfl) ret_i (fun Z hG hl C hR hret => by
  subst hG
  exact m_X9_mark_ok (K := fun y => y = x) C hR k hk I (fun y hy => by subst hy; exact hret) x h rfl)
def m_X3_findMarks_j57 (k : Nat) (p1 : Nat) (x2 : Int32) (x3 : Int32) (x4 : Int32) (I : Mem) : Option ((Int32 × Int32) ⊕ ((Int32))) :=
  some (.inl (x3, x4 + 1))
set_option maxRecDepth 100000 in
set_option maxHeartbeats 4000000 in
theorem m_X3_findMarks_j57_ok {Z : Zx} {K : ((Int32 × Int32) ⊕ ((Int32))) → Prop} (C : Cx Z cX3_findMarks 5 RX3) (hR : RM Z 2 42) (k : Nat) (p1 : Nat) (x2 : Int32) (x3 : Int32) (x4 : Int32) (hk : isO k 3) (hp1 : isO p1 4) (I : Mem) (hB : ∀ a, K (.inl a) → WM Z I 18 [some (rf (zG Z) k), some (rf (zG Z) p1), some (.int x2), some (.int a.1), some (.int a.2)] []) (hX0 : ∀ b, K (.inr (b)) → WM Z I 63 [some (rf (zG Z) k), some (rf (zG Z) p1), some (.int x2), some (.int b), none] []) : WF Z K (m_X3_findMarks_j57 k p1 x2 x3 x4 I) I 57 [some (rf (zG Z) k), some (rf (zG Z) p1), some (.int x2), some (.int x3), some (.int x4)] [] := by
  unfold m_X3_findMarks_j57
  refine w_iinc (v := x4 + 1) C dX3_findMarks_57 rfl rfl (L' := [some (rf (zG Z) k), some (rf (zG Z) p1), some (.int x2), some (.int x3), some (.int (x4 + 1))]) rfl (q := 60) rfl ?_
  refine w_goto (tgt := 18) C dX3_findMarks_60 (by decide) ?_
  exact w_jmp (fun h => WM.less (L' := [some (rf (zG Z) k), some (rf (zG Z) p1), some (.int x2), some (.int x3), some (.int (x4 + 1))]) (hB _ h) ⟨rfl, rfl, rfl, rfl, rfl, trivial⟩)
def m_X3_findMarks_b18 (k : Nat) (p1 : Nat) (x2 : Int32) (x3 : Int32) (x4 : Int32) (I : Mem) : Option ((Int32 × Int32) ⊕ ((Int32))) :=
  Option.bind (m_X4_bodyCount p1 I) fun r2 => if r2 ≤ x4 then (some (.inr (x3))) else (Option.bind (m_X4_bodyAt p1 x4 I) fun r3 => gd (iO r3 9) (Option.bind (m_X9_mark r3 I) fun r5 => Option.bind (m_X8_itemAt (k - 32) x2 I) fun r6 => gd (iO r6 2) (if r5 = I r6 0 then (m_X3_findMarks_j57 k p1 x2 (x3 ||| (((1 : Int32)) <<< (x4 &&& 31))) x4 I) else (m_X3_findMarks_j57 k p1 x2 x3 x4 I))))
set_option maxRecDepth 100000 in
set_option maxHeartbeats 4000000 in
theorem m_X3_findMarks_b18_ok {Z : Zx} {K : ((Int32 × Int32) ⊕ ((Int32))) → Prop} (C : Cx Z cX3_findMarks 5 RX3) (hR : RM Z 2 42) (k : Nat) (p1 : Nat) (x2 : Int32) (x3 : Int32) (x4 : Int32) (hk : isO k 3) (hp1 : isO p1 4) (I : Mem) (hB : ∀ a, K (.inl a) → WM Z I 18 [some (rf (zG Z) k), some (rf (zG Z) p1), some (.int x2), some (.int a.1), some (.int a.2)] []) (hX0 : ∀ b, K (.inr (b)) → WM Z I 63 [some (rf (zG Z) k), some (rf (zG Z) p1), some (.int x2), some (.int b), none] []) : WF Z K (m_X3_findMarks_b18 k p1 x2 x3 x4 I) I 18 [some (rf (zG Z) k), some (rf (zG Z) p1), some (.int x2), some (.int x3), some (.int x4)] [] := by
  unfold m_X3_findMarks_b18
  refine w_iload (v := x4) C dX3_findMarks_18 rfl (q := 20) rfl ?_
  refine w_aload_n (v := p1) C dX3_findMarks_20 rfl (q := 21) rfl ?_
  refine w_callV (val := fun r2 => some (.int r2)) (mem := fun r2 => I) (st1 := fun r2 => [.int r2, .int x4]) (As := []) (st := [.int x4]) (q := 24) C hR (fun x h => c_X4_bodyCount (zl Z) (zG Z)  hp1 I h) hp1 mv_X4_bodyCount lk_X3_38 rfl (by decide) (fun _ => rfl) (Nat.le_of_ble_eq_true rfl) rfl rfl dX3_findMarks_21 rfl (fun r2 => ?_)
  refine w_icmp_ge (tgt := 63) (q := 27) C dX3_findMarks_24 (by decide) rfl (fun _ => ?_) (fun _ => ?_)
  · exact w_jmp (fun h => WM.less (L' := [some (rf (zG Z) k), some (rf (zG Z) p1), some (.int x2), some (.int x3), none]) (hX0 _ h) ⟨rfl, rfl, rfl, rfl, trivial⟩)
  · refine w_aload_n (v := p1) C dX3_findMarks_27 rfl (q := 28) rfl ?_
    refine w_iload (v := x4) C dX3_findMarks_28 rfl (q := 30) rfl ?_
    refine w_callV (val := fun r3 => some (rf (zG Z) r3)) (mem := fun r3 => I) (st1 := fun r3 => [rf (zG Z) r3]) (As := [.int x4]) (st := []) (q := 33) C hR (fun x h => c_X4_bodyAt (zl Z) (zG Z) x4 hp1 I h) hp1 mv_X4_bodyAt lk_X3_78 rfl (by decide) (fun _ => rfl) (Nat.le_of_ble_eq_true rfl) rfl rfl dX3_findMarks_30 rfl (fun r3 => ?_)
    refine w_gd (fun h4 => ?_)
    refine w_callV (val := fun r5 => some (.int r5)) (mem := fun r5 => I) (st1 := fun r5 => [.int r5]) (As := []) (st := []) (q := 36) C hR (fun x h => c_X9_mark (zl Z) (zG Z)  (iO_of h4) I h) (iO_of h4) mv_X9_mark lk_X3_82 rfl (by decide) (fun _ => rfl) (Nat.le_of_ble_eq_true rfl) rfl rfl dX3_findMarks_33 rfl (fun r5 => ?_)
    refine w_aload_n (v := k) C dX3_findMarks_36 rfl (q := 37) rfl ?_
    refine g_X3_0 C hk lk_X3_24 dX3_findMarks_37 (q := 40) rfl ?_
    refine w_iload_n (v := x2) C dX3_findMarks_40 rfl (q := 41) rfl ?_
    refine w_callV (val := fun r6 => some (rf (zG Z) r6)) (mem := fun r6 => I) (st1 := fun r6 => [rf (zG Z) r6, .int r5]) (As := [.int x2]) (st := [.int r5]) (q := 44) C hR (fun x h => c_X8_itemAt (zl Z) (zG Z) x2 (st_X3_0 hk).2 I h) (st_X3_0 hk).2 mv_X8_itemAt lk_X3_88 rfl (by decide) (fun _ => rfl) (Nat.le_of_ble_eq_true rfl) rfl rfl dX3_findMarks_41 rfl (fun r6 => ?_)
    refine w_gd (fun h7 => ?_)
    refine gN_X2_0 C (iO_of h7) lk_X3_92 dX3_findMarks_44 (q := 47) rfl ?_
    refine w_icmp_ne (tgt := 57) (q := 50) C dX3_findMarks_47 (by decide) rfl (fun _ => ?_) (fun _ => ?_)
    · refine w_iload_n (v := x3) C dX3_findMarks_50 rfl (q := 51) rfl ?_
      refine w_iconst (v := (1)) C dX3_findMarks_51 (by decide) (q := 52) rfl ?_
      refine w_iload (v := x4) C dX3_findMarks_52 rfl (q := 54) rfl ?_
      refine w_ishl C dX3_findMarks_54 (q := 55) rfl ?_
      refine w_ior C dX3_findMarks_55 (q := 56) rfl ?_
      refine w_istore_n C dX3_findMarks_56 (Nat.le_of_ble_eq_true rfl) (L' := [some (rf (zG Z) k), some (rf (zG Z) p1), some (.int x2), some (.int (x3 ||| (((1 : Int32)) <<< (x4 &&& 31)))), some (.int x4)]) rfl (q := 57) rfl ?_
      exact WF.less (L' := [some (rf (zG Z) k), some (rf (zG Z) p1), some (.int x2), some (.int (x3 ||| (((1 : Int32)) <<< (x4 &&& 31)))), some (.int x4)]) (m_X3_findMarks_j57_ok C hR k p1 x2 (x3 ||| (((1 : Int32)) <<< (x4 &&& 31))) x4 hk hp1 I hB hX0) ⟨rfl, rfl, rfl, rfl, rfl, trivial⟩
    · exact WF.less (L' := [some (rf (zG Z) k), some (rf (zG Z) p1), some (.int x2), some (.int x3), some (.int x4)]) (m_X3_findMarks_j57_ok C hR k p1 x2 x3 x4 hk hp1 I hB hX0) ⟨rfl, rfl, rfl, rfl, rfl, trivial⟩
def m_X3_findMarks_b2 (k : Nat) (p1 : Nat) (x2 : Int32) (I : Mem) : Option ((Int32 × Mem) ⊕ ((Mem))) :=
  Option.bind (m_X8_itemCount (k - 32) I) fun r1 => if r1 ≤ x2 then (some (.inr (I))) else (Option.bind (loopF (fun a => m_X3_findMarks_b18 k p1 x2 a.1 a.2 I) FU ((0 : Int32), (0 : Int32))) (fun b8 => gd (inb x2 10) (bnd (ms I (k + 1) x2.toNatClampNeg b8) fun I9 => some (.inl (x2 + 1, I9)))))
set_option maxRecDepth 100000 in
set_option maxHeartbeats 4000000 in
theorem m_X3_findMarks_b2_ok {Z : Zx} {K : ((Int32 × Mem) ⊕ ((Mem))) → Prop} (C : Cx Z cX3_findMarks 5 RX3) (hR : RM Z 2 42) (k : Nat) (p1 : Nat) (x2 : Int32) (hk : isO k 3) (hp1 : isO p1 4) (I : Mem) (hB : ∀ a, K (.inl a) → WM Z a.2 2 [some (rf (zG Z) k), some (rf (zG Z) p1), some (.int a.1), none, none] []) (hX0 : ∀ b, K (.inr (b)) → WM Z b 76 [none, none, none, none, none] []) : WF Z K (m_X3_findMarks_b2 k p1 x2 I) I 2 [some (rf (zG Z) k), some (rf (zG Z) p1), some (.int x2), none, none] [] := by
  unfold m_X3_findMarks_b2
  refine w_iload_n (v := x2) C dX3_findMarks_2 rfl (q := 3) rfl ?_
  refine w_aload_n (v := k) C dX3_findMarks_3 rfl (q := 4) rfl ?_
  refine g_X3_0 C hk lk_X3_24 dX3_findMarks_4 (q := 7) rfl ?_
  refine w_callV (val := fun r1 => some (.int r1)) (mem := fun r1 => I) (st1 := fun r1 => [.int r1, .int x2]) (As := []) (st := [.int x2]) (q := 10) C hR (fun x h => c_X8_itemCount (zl Z) (zG Z)  (st_X3_0 hk).2 I h) (st_X3_0 hk).2 mv_X8_itemCount lk_X3_75 rfl (by decide) (fun _ => rfl) (Nat.le_of_ble_eq_true rfl) rfl rfl dX3_findMarks_7 rfl (fun r1 => ?_)
  refine w_icmp_ge (tgt := 76) (q := 13) C dX3_findMarks_10 (by decide) rfl (fun _ => ?_) (fun _ => ?_)
  · exact w_jmp (fun h => WM.less (L' := [none, none, none, none, none]) (hX0 _ h) trivial)
  · refine w_iconst (v := (0)) C dX3_findMarks_13 (by decide) (q := 14) rfl ?_
    refine w_istore_n C dX3_findMarks_14 (Nat.le_of_ble_eq_true rfl) (L' := [some (rf (zG Z) k), some (rf (zG Z) p1), some (.int x2), some (.int 0), none]) rfl (q := 15) rfl ?_
    refine w_iconst (v := (0)) C dX3_findMarks_15 (by decide) (q := 16) rfl ?_
    refine w_istore C dX3_findMarks_16 (Nat.le_of_ble_eq_true rfl) (L' := [some (rf (zG Z) k), some (rf (zG Z) p1), some (.int x2), some (.int 0), some (.int 0)]) rfl (q := 18) rfl ?_
    refine WF.less (L' := [some (rf (zG Z) k), some (rf (zG Z) p1), some (.int x2), some (.int 0), some (.int 0)]) (w_loopF (pc := 18) (a := ((0 : Int32), (0 : Int32))) (mem := fun a => I) (lo := fun a => [some (rf (zG Z) k), some (rf (zG Z) p1), some (.int x2), some (.int a.1), some (.int a.2)]) (E := fun b8 => WM Z I 63 [some (rf (zG Z) k), some (rf (zG Z) p1), some (.int x2), some (.int b8), none] []) (fun a => m_X3_findMarks_b18_ok C hR k p1 x2 a.1 a.2 hk hp1 I (fun _ h => h) (fun _ h => h)) ?_) ⟨rfl, rfl, rfl, rfl, rfl, trivial⟩
    intro b8
    refine w_hx ?_
    refine w_aload_n (v := k) C dX3_findMarks_63 rfl (q := 64) rfl ?_
    refine g_X3_1 C hk lk_X3_9 dX3_findMarks_64 (q := 67) rfl ?_
    refine w_iload_n (v := x2) C dX3_findMarks_67 rfl (q := 68) rfl ?_
    refine w_iload_n (v := b8) C dX3_findMarks_68 rfl (q := 69) rfl ?_
    refine w_iast C (st_X3_1 hk).2 dX3_findMarks_69 (q := 70) rfl (fun _ I9 => ?_)
    refine w_iinc (v := x2 + 1) C dX3_findMarks_70 rfl rfl (L' := [some (rf (zG Z) k), some (rf (zG Z) p1), some (.int (x2 + 1)), some (.int b8), none]) rfl (q := 73) rfl ?_
    refine w_goto (tgt := 2) C dX3_findMarks_73 (by decide) ?_
    exact w_jmp (fun h => WM.less (L' := [some (rf (zG Z) k), some (rf (zG Z) p1), some (.int (x2 + 1)), none, none]) (hB _ h) ⟨rfl, rfl, rfl, trivial⟩)
def m_X3_findMarks (k : Nat) (p1 : Nat) (I : Mem) : Option (Mem) :=
  Option.bind (loopF (fun a => m_X3_findMarks_b2 k p1 a.1 a.2) FU ((0 : Int32), I)) (fun b10 => some b10)
set_option maxRecDepth 100000 in
set_option maxHeartbeats 4000000 in
theorem m_X3_findMarks_ok {Z : Zx} {K : Mem → Prop} (C : Cx Z cX3_findMarks 5 RX3) (hR : RM Z 2 42) (k : Nat) (p1 : Nat) (hk : isO k 3) (hp1 : isO p1 4) (I : Mem) (hK : ∀ y, K (y) → RetV Z cX3_findMarks y) : WF Z K (m_X3_findMarks k p1 I) I 0 [some (rf (zG Z) k), some (rf (zG Z) p1), none, none, none] [] := by
  unfold m_X3_findMarks
  refine w_iconst (v := (0)) C dX3_findMarks_0 (by decide) (q := 1) rfl ?_
  refine w_istore_n C dX3_findMarks_1 (Nat.le_of_ble_eq_true rfl) (L' := [some (rf (zG Z) k), some (rf (zG Z) p1), some (.int 0), none, none]) rfl (q := 2) rfl ?_
  refine WF.less (L' := [some (rf (zG Z) k), some (rf (zG Z) p1), some (.int 0), none, none]) (w_loopF (pc := 2) (a := ((0 : Int32), I)) (mem := fun a => a.2) (lo := fun a => [some (rf (zG Z) k), some (rf (zG Z) p1), some (.int a.1), none, none]) (E := fun b10 => WM Z b10 76 [none, none, none, none, none] []) (fun a => m_X3_findMarks_b2_ok C hR k p1 a.1 hk hp1 a.2 (fun _ h => h) (fun _ h => h)) ?_) ⟨rfl, rfl, rfl, trivial⟩
  intro b10
  refine w_hx ?_
  exact w_vret C (hK _) dX3_findMarks_76
theorem c_X3_findMarks (l : Launch) (G : Gx) {k : Nat} {p1 : Nat} (hk : isO k 3) (hp1 : isO p1 4) (I : Mem) {x : Mem} (h : m_X3_findMarks k p1 I = some x) : Ct l G yX3_findMarks cX3_findMarks 5 none 2 42 [rf G k, rf G p1] I (none) x := Ct.of (by decide +kernel) rfl (Nat.le_of_ble_eq_true rfl) ret_v (fun Z hG hl C hR hret => by
  subst hG
  exact m_X3_findMarks_ok (K := fun y => y = x) C hR k p1 hk hp1 I (fun y hy => by subst hy; exact hret) x h rfl)
def m_X8_entryCount (k : Nat) (I : Mem) : Option (Int32) :=
  some (I k 5)
set_option maxRecDepth 100000 in
set_option maxHeartbeats 4000000 in
theorem m_X8_entryCount_ok {Z : Zx} {K : Int32 → Prop} (C : Cx Z cX8_entryCount 1 RX8) (hR : RM Z 0 0) (k : Nat) (hk : isO k 8) (I : Mem) (hK : ∀ y, K (y) → RetI Z cX8_entryCount .int y I) : WF Z K (m_X8_entryCount k I) I 0 [some (rf (zG Z) k)] [] := by
  unfold m_X8_entryCount
  refine w_aload_n (v := k) C dX8_entryCount_0 rfl (q := 1) rfl ?_
  refine g_X8_5 C hk lk_X8_37 dX8_entryCount_1 (q := 4) rfl ?_
  exact w_iret C (hK _) rfl dX8_entryCount_4
theorem c_X8_entryCount (l : Launch) (G : Gx) {k : Nat} (hk : isO k 8) (I : Mem) {x : Int32} (h : m_X8_entryCount k I = some x) : Ct l G yX8_entryCount cX8_entryCount 1 (some (.int)) 0 0 [rf G k] I (some (.int x)) I := Ct.of (by decide +kernel) rfl (Nat.le_of_ble_eq_true rfl) ret_i (fun Z hG hl C hR hret => by
  subst hG
  exact m_X8_entryCount_ok (K := fun y => y = x) C hR k hk I (fun y hy => by subst hy; exact hret) x h rfl)
def m_X3_canDivide_b29 (k : Nat) (x3 : Int32) (I : Mem) : Option ((Int32 × Mem) ⊕ ((Mem))) :=
  if x3 < 0 then (some (.inr (I))) else (Option.bind (m_X8_entryAt (k - 32) x3 I) fun r5 => gd (iO r5 0) (gd (inb (x3 + 1) 12) (Option.bind (m_X3_findAfters k r5 (I (k + 2) (x3 + 1).toNatClampNeg) I) fun I7 => gd (inb 0 10) (gd (inb x3 12) (bnd (ms I7 (k + 2) x3.toNatClampNeg (I7 (k + 3) ((0 : Int32)).toNatClampNeg)) fun I8 => some (.inl (x3 + (-1), I8)))))))
set_option maxRecDepth 100000 in
set_option maxHeartbeats 4000000 in
theorem m_X3_canDivide_b29_ok {Z : Zx} {K : ((Int32 × Mem) ⊕ ((Mem))) → Prop} (C : Cx Z cX3_canDivide 4 RX3) (hR : RM Z 3 78) (k : Nat) (x3 : Int32) (hk : isO k 3) (I : Mem) (hB : ∀ a, K (.inl a) → WM Z a.2 29 [some (rf (zG Z) k), none, none, some (.int a.1)] []) (hX0 : ∀ b, K (.inr (b)) → WM Z b 71 [some (rf (zG Z) k), none, none, none] []) : WF Z K (m_X3_canDivide_b29 k x3 I) I 29 [some (rf (zG Z) k), none, none, some (.int x3)] [] := by
  unfold m_X3_canDivide_b29
  refine w_iload_n (v := x3) C dX3_canDivide_29 rfl (q := 30) rfl ?_
  refine w_if_lt (tgt := 71) (q := 33) C dX3_canDivide_30 (by decide) rfl (fun _ => ?_) (fun _ => ?_)
  · exact w_jmp (fun h => WM.less (L' := [some (rf (zG Z) k), none, none, none]) (hX0 _ h) ⟨rfl, trivial⟩)
  · refine w_aload_n (v := k) C dX3_canDivide_33 rfl (q := 34) rfl ?_
    refine w_aload_n (v := k) C dX3_canDivide_34 rfl (q := 35) rfl ?_
    refine g_X3_0 C hk lk_X3_24 dX3_canDivide_35 (q := 38) rfl ?_
    refine w_iload_n (v := x3) C dX3_canDivide_38 rfl (q := 39) rfl ?_
    refine w_callV (val := fun r5 => some (rf (zG Z) r5)) (mem := fun r5 => I) (st1 := fun r5 => [rf (zG Z) r5, rf (zG Z) k]) (As := [.int x3]) (st := [rf (zG Z) k]) (q := 42) C hR (fun x h => c_X8_entryAt (zl Z) (zG Z) x3 (st_X3_0 hk).2 I h) (st_X3_0 hk).2 mv_X8_entryAt lk_X3_43 rfl (by decide) (fun _ => rfl) (Nat.le_of_ble_eq_true rfl) rfl rfl dX3_canDivide_39 rfl (fun r5 => ?_)
    refine w_gd (fun h6 => ?_)
    refine w_aload_n (v := k) C dX3_canDivide_42 rfl (q := 43) rfl ?_
    refine g_X3_2 C hk lk_X3_15 dX3_canDivide_43 (q := 46) rfl ?_
    refine w_iload_n (v := x3) C dX3_canDivide_46 rfl (q := 47) rfl ?_
    refine w_iconst (v := (1)) C dX3_canDivide_47 (by decide) (q := 48) rfl ?_
    refine w_iadd C dX3_canDivide_48 (q := 49) rfl ?_
    refine w_iald C (st_X3_2 hk).2 dX3_canDivide_49 (q := 50) rfl (fun _ => ?_)
    refine w_callV (val := fun I7 => none) (mem := fun I7 => I7) (st1 := fun I7 => []) (As := [rf (zG Z) r5, .int (I (k + 2) (x3 + 1).toNatClampNeg)]) (st := []) (q := 53) C hR (fun x h => c_X3_findAfters (zl Z) (zG Z) (I (k + 2) (x3 + 1).toNatClampNeg) hk (iO_of h6) I h) hk mv_X3_findAfters lk_X3_47 rfl (by decide) (fun _ => rfl) (Nat.le_of_ble_eq_true rfl) rfl rfl dX3_canDivide_50 rfl (fun I7 => ?_)
    refine w_aload_n (v := k) C dX3_canDivide_53 rfl (q := 54) rfl ?_
    refine g_X3_2 C hk lk_X3_15 dX3_canDivide_54 (q := 57) rfl ?_
    refine w_iload_n (v := x3) C dX3_canDivide_57 rfl (q := 58) rfl ?_
    refine w_aload_n (v := k) C dX3_canDivide_58 rfl (q := 59) rfl ?_
    refine g_X3_3 C hk lk_X3_18 dX3_canDivide_59 (q := 62) rfl ?_
    refine w_iconst (v := (0)) C dX3_canDivide_62 (by decide) (q := 63) rfl ?_
    refine w_iald C (st_X3_3 hk).2 dX3_canDivide_63 (q := 64) rfl (fun _ => ?_)
    refine w_iast C (st_X3_2 hk).2 dX3_canDivide_64 (q := 65) rfl (fun _ I8 => ?_)
    refine w_iinc (v := x3 + (-1)) C dX3_canDivide_65 rfl rfl (L' := [some (rf (zG Z) k), none, none, some (.int (x3 + (-1)))]) rfl (q := 68) rfl ?_
    refine w_goto (tgt := 29) C dX3_canDivide_68 (by decide) ?_
    exact w_jmp (fun h => WM.less (L' := [some (rf (zG Z) k), none, none, some (.int (x3 + (-1)))]) (hB _ h) ⟨rfl, rfl, trivial⟩)
def m_X3_canDivide (k : Nat) (p1 : Nat) (I : Mem) : Option (Int32 × Mem) :=
  Option.bind (m_X3_findMarks k p1 I) fun I1 => Option.bind (m_X8_entryCount (k - 32) I1) fun r2 => Option.bind (m_X4_bodyCount p1 I1) fun r3 => gd (inb r2 12) (bnd (ms I1 (k + 2) r2.toNatClampNeg (((1 : Int32)) <<< (r3 &&& 31))) fun I4 => Option.bind (loopF (fun a => m_X3_canDivide_b29 k a.1 a.2) FU (r2 - 1, I4)) (fun b9 => gd (inb 0 12) (Option.bind (m_X3_contains (b9 (k + 2) ((0 : Int32)).toNatClampNeg) ((0 : Int32)) b9) fun r10 => gd (okz r10) (some ((r10, b9))))))
set_option maxRecDepth 100000 in
set_option maxHeartbeats 4000000 in
theorem m_X3_canDivide_ok {Z : Zx} {K : (Int32 × Mem) → Prop} (C : Cx Z cX3_canDivide 4 RX3) (hR : RM Z 3 78) (k : Nat) (p1 : Nat) (hk : isO k 3) (hp1 : isO p1 4) (I : Mem) (hK : ∀ y, K (y) → RetI Z cX3_canDivide .boolean y.1 y.2) : WF Z K (m_X3_canDivide k p1 I) I 0 [some (rf (zG Z) k), some (rf (zG Z) p1), none, none] [] := by
  unfold m_X3_canDivide
  refine w_aload_n (v := k) C dX3_canDivide_0 rfl (q := 1) rfl ?_
  refine w_aload_n (v := p1) C dX3_canDivide_1 rfl (q := 2) rfl ?_
  refine w_callV (val := fun I1 => none) (mem := fun I1 => I1) (st1 := fun I1 => []) (As := [rf (zG Z) p1]) (st := []) (q := 5) C hR (fun x h => c_X3_findMarks (zl Z) (zG Z)  hk hp1 I h) hk mv_X3_findMarks lk_X3_28 rfl (by decide) (fun _ => rfl) (Nat.le_of_ble_eq_true rfl) rfl rfl dX3_canDivide_2 rfl (fun I1 => ?_)
  refine w_aload_n (v := k) C dX3_canDivide_5 rfl (q := 6) rfl ?_
  refine g_X3_0 C hk lk_X3_24 dX3_canDivide_6 (q := 9) rfl ?_
  refine w_callV (val := fun r2 => some (.int r2)) (mem := fun r2 => I1) (st1 := fun r2 => [.int r2]) (As := []) (st := []) (q := 12) C hR (fun x h => c_X8_entryCount (zl Z) (zG Z)  (st_X3_0 hk).2 I1 h) (st_X3_0 hk).2 mv_X8_entryCount lk_X3_32 rfl (by decide) (fun _ => rfl) (Nat.le_of_ble_eq_true rfl) rfl rfl dX3_canDivide_9 rfl (fun r2 => ?_)
  refine w_istore_n C dX3_canDivide_12 (Nat.le_of_ble_eq_true rfl) (L' := [some (rf (zG Z) k), some (rf (zG Z) p1), some (.int r2), none]) rfl (q := 13) rfl ?_
  refine w_aload_n (v := k) C dX3_canDivide_13 rfl (q := 14) rfl ?_
  refine g_X3_2 C hk lk_X3_15 dX3_canDivide_14 (q := 17) rfl ?_
  refine w_iload_n (v := r2) C dX3_canDivide_17 rfl (q := 18) rfl ?_
  refine w_iconst (v := (1)) C dX3_canDivide_18 (by decide) (q := 19) rfl ?_
  refine w_aload_n (v := p1) C dX3_canDivide_19 rfl (q := 20) rfl ?_
  refine w_callV (val := fun r3 => some (.int r3)) (mem := fun r3 => I1) (st1 := fun r3 => [.int r3, .int 1, .int r2, rf (zG Z) (k + 2)]) (As := []) (st := [.int 1, .int r2, rf (zG Z) (k + 2)]) (q := 23) C hR (fun x h => c_X4_bodyCount (zl Z) (zG Z)  hp1 I1 h) hp1 mv_X4_bodyCount lk_X3_38 rfl (by decide) (fun _ => rfl) (Nat.le_of_ble_eq_true rfl) rfl rfl dX3_canDivide_20 rfl (fun r3 => ?_)
  refine w_ishl C dX3_canDivide_23 (q := 24) rfl ?_
  refine w_iast C (st_X3_2 hk).2 dX3_canDivide_24 (q := 25) rfl (fun _ I4 => ?_)
  refine w_iload_n (v := r2) C dX3_canDivide_25 rfl (q := 26) rfl ?_
  refine w_iconst (v := (1)) C dX3_canDivide_26 (by decide) (q := 27) rfl ?_
  refine w_isub C dX3_canDivide_27 (q := 28) rfl ?_
  refine w_istore_n C dX3_canDivide_28 (Nat.le_of_ble_eq_true rfl) (L' := [some (rf (zG Z) k), some (rf (zG Z) p1), some (.int r2), some (.int (r2 - 1))]) rfl (q := 29) rfl ?_
  refine WF.less (L' := [some (rf (zG Z) k), none, none, some (.int (r2 - 1))]) (w_loopF (pc := 29) (a := (r2 - 1, I4)) (mem := fun a => a.2) (lo := fun a => [some (rf (zG Z) k), none, none, some (.int a.1)]) (E := fun b9 => WM Z b9 71 [some (rf (zG Z) k), none, none, none] []) (fun a => m_X3_canDivide_b29_ok C hR k a.1 hk a.2 (fun _ h => h) (fun _ h => h)) ?_) ⟨rfl, rfl, trivial⟩
  intro b9
  refine w_hx ?_
  refine w_aload_n (v := k) C dX3_canDivide_71 rfl (q := 72) rfl ?_
  refine g_X3_2 C hk lk_X3_15 dX3_canDivide_72 (q := 75) rfl ?_
  refine w_iconst (v := (0)) C dX3_canDivide_75 (by decide) (q := 76) rfl ?_
  refine w_iald C (st_X3_2 hk).2 dX3_canDivide_76 (q := 77) rfl (fun _ => ?_)
  refine w_iconst (v := (0)) C dX3_canDivide_77 (by decide) (q := 78) rfl ?_
  refine w_callS (val := fun r10 => some (.int r10)) (mem := fun r10 => b9) (st1 := fun r10 => [.int r10]) (As := [.int (b9 (k + 2) ((0 : Int32)).toNatClampNeg), .int 0]) (st := []) (q := 81) C hR (fun x h => c_X3_contains (zl Z) (zG Z) (b9 (k + 2) ((0 : Int32)).toNatClampNeg) ((0 : Int32))  b9 h) mv_X3_contains lk_X3_51 rfl (by decide) (fun _ => rfl) (Nat.le_of_ble_eq_true rfl) rfl rfl dX3_canDivide_78 rfl (fun r10 => ?_)
  refine w_gd (fun h11 => ?_)
  exact w_iret C (hK _) (okz_n h11).1 dX3_canDivide_81
theorem c_X3_canDivide (l : Launch) (G : Gx) {k : Nat} {p1 : Nat} (hk : isO k 3) (hp1 : isO p1 4) (I : Mem) {x : Int32 × Mem} (h : m_X3_canDivide k p1 I = some x) : Ct l G yX3_canDivide cX3_canDivide 4 (some (.boolean)) 3 78 [rf G k, rf G p1] I (some (.int x.1)) x.2 := Ct.of (by decide +kernel) rfl (Nat.le_of_ble_eq_true rfl) ret_i (fun Z hG hl C hR hret => by
  subst hG
  exact m_X3_canDivide_ok (K := fun y => y = x) C hR k p1 hk hp1 I (fun y hy => by subst hy; exact hret) x h rfl)
def m_X3_greatestTimes_j55 (k : Nat) (p1 : Int32) (p2 : Int32) (x3 : Nat) (x4 : Int32) (x5 : Int32) (I : Mem) : Option ((Int32 × Int32) ⊕ ((Int32) ⊕ (Int32))) :=
  gd (inb p1 10) (Option.bind (m_X3_contains (I (k + 1) p1.toNatClampNeg) (p2 + x5) I) fun r3 => if r3 = 0 then (some (.inr (.inr (x4)))) else (some (.inl (x4, x5 + 1))))
set_option maxRecDepth 100000 in
set_option maxHeartbeats 4000000 in
theorem m_X3_greatestTimes_j55_ok {Z : Zx} {K : ((Int32 × Int32) ⊕ ((Int32) ⊕ (Int32))) → Prop} (C : Cx Z cX3_greatestTimes 6 RX3) (hR : RM Z 1 21) (k : Nat) (p1 : Int32) (p2 : Int32) (x3 : Nat) (x4 : Int32) (x5 : Int32) (hk : isO k 3) (hx3 : isO x3 2) (I : Mem) (hB : ∀ a, K (.inl a) → WM Z I 15 [some (rf (zG Z) k), some (.int p1), some (.int p2), some (rf (zG Z) x3), some (.int a.1), some (.int a.2)] []) (hX0 : ∀ b, K (.inr (.inr (b))) → WM Z I 71 [none, none, none, none, some (.int b), none] []) (hK : ∀ y, K (.inr (.inl (y))) → RetI Z cX3_greatestTimes .int y I) : WF Z K (m_X3_greatestTimes_j55 k p1 p2 x3 x4 x5 I) I 55 [some (rf (zG Z) k), some (.int p1), some (.int p2), some (rf (zG Z) x3), some (.int x4), some (.int x5)] [] := by
  unfold m_X3_greatestTimes_j55
  refine w_aload_n (v := k) C dX3_greatestTimes_55 rfl (q := 56) rfl ?_
  refine g_X3_1 C hk lk_X3_9 dX3_greatestTimes_56 (q := 59) rfl ?_
  refine w_iload_n (v := p1) C dX3_greatestTimes_59 rfl (q := 60) rfl ?_
  refine w_iald C (st_X3_1 hk).2 dX3_greatestTimes_60 (q := 61) rfl (fun _ => ?_)
  refine w_iload_n (v := p2) C dX3_greatestTimes_61 rfl (q := 62) rfl ?_
  refine w_iload (v := x5) C dX3_greatestTimes_62 rfl (q := 64) rfl ?_
  refine w_iadd C dX3_greatestTimes_64 (q := 65) rfl ?_
  refine w_callS (val := fun r3 => some (.int r3)) (mem := fun r3 => I) (st1 := fun r3 => [.int r3]) (As := [.int (I (k + 1) p1.toNatClampNeg), .int (p2 + x5)]) (st := []) (q := 68) C hR (fun x h => c_X3_contains (zl Z) (zG Z) (I (k + 1) p1.toNatClampNeg) (p2 + x5)  I h) mv_X3_contains lk_X3_51 rfl (by decide) (fun _ => rfl) (Nat.le_of_ble_eq_true rfl) rfl rfl dX3_greatestTimes_65 rfl (fun r3 => ?_)
  refine w_if_ne (tgt := 74) (q := 71) C dX3_greatestTimes_68 (by decide) rfl (fun _ => ?_) (fun _ => ?_)
  · exact w_jmp (fun h => WM.less (L' := [none, none, none, none, some (.int x4), none]) (hX0 _ h) ⟨rfl, trivial⟩)
  · refine w_iinc (v := x5 + 1) C dX3_greatestTimes_74 rfl rfl (L' := [some (rf (zG Z) k), some (.int p1), some (.int p2), some (rf (zG Z) x3), some (.int x4), some (.int (x5 + 1))]) rfl (q := 77) rfl ?_
    refine w_goto (tgt := 15) C dX3_greatestTimes_77 (by decide) ?_
    exact w_jmp (fun h => WM.less (L' := [some (rf (zG Z) k), some (.int p1), some (.int p2), some (rf (zG Z) x3), some (.int x4), some (.int (x5 + 1))]) (hB _ h) ⟨rfl, rfl, rfl, rfl, rfl, rfl, trivial⟩)
def m_X3_greatestTimes_b15 (k : Nat) (p1 : Int32) (p2 : Int32) (x3 : Nat) (x4 : Int32) (x5 : Int32) (I : Mem) : Option ((Int32 × Int32) ⊕ ((Int32) ⊕ (Int32))) :=
  if I x3 2 < x5 then (some (.inr (.inl x4))) else (if x5 < I x3 1 then (m_X3_greatestTimes_j55 k p1 p2 x3 x4 x5 I) else (gd (inb (p1 + 1) 11) (Option.bind (m_X3_contains (I (k + 4) (p1 + 1).toNatClampNeg) (p2 + x5) I) fun r4 => if r4 = 0 then (m_X3_greatestTimes_j55 k p1 p2 x3 x4 x5 I) else (m_X3_greatestTimes_j55 k p1 p2 x3 x5 x5 I))))
set_option maxRecDepth 100000 in
set_option maxHeartbeats 4000000 in
theorem m_X3_greatestTimes_b15_ok {Z : Zx} {K : ((Int32 × Int32) ⊕ ((Int32) ⊕ (Int32))) → Prop} (C : Cx Z cX3_greatestTimes 6 RX3) (hR : RM Z 1 21) (k : Nat) (p1 : Int32) (p2 : Int32) (x3 : Nat) (x4 : Int32) (x5 : Int32) (hk : isO k 3) (hx3 : isO x3 2) (I : Mem) (hB : ∀ a, K (.inl a) → WM Z I 15 [some (rf (zG Z) k), some (.int p1), some (.int p2), some (rf (zG Z) x3), some (.int a.1), some (.int a.2)] []) (hX0 : ∀ b, K (.inr (.inr (b))) → WM Z I 71 [none, none, none, none, some (.int b), none] []) (hK : ∀ y, K (.inr (.inl (y))) → RetI Z cX3_greatestTimes .int y I) : WF Z K (m_X3_greatestTimes_b15 k p1 p2 x3 x4 x5 I) I 15 [some (rf (zG Z) k), some (.int p1), some (.int p2), some (rf (zG Z) x3), some (.int x4), some (.int x5)] [] := by
  unfold m_X3_greatestTimes_b15
  refine w_iload (v := x5) C dX3_greatestTimes_15 rfl (q := 17) rfl ?_
  refine w_aload_n (v := x3) C dX3_greatestTimes_17 rfl (q := 18) rfl ?_
  refine gN_X2_2 C hx3 lk_X3_113 dX3_greatestTimes_18 (q := 21) rfl ?_
  refine w_icmp_gt (tgt := 80) (q := 24) C dX3_greatestTimes_21 (by decide) rfl (fun _ => ?_) (fun _ => ?_)
  · refine w_iload (v := x4) C dX3_greatestTimes_80 rfl (q := 82) rfl ?_
    exact w_iret C (hK _) rfl dX3_greatestTimes_82
  · refine w_iload (v := x5) C dX3_greatestTimes_24 rfl (q := 26) rfl ?_
    refine w_aload_n (v := x3) C dX3_greatestTimes_26 rfl (q := 27) rfl ?_
    refine gN_X2_1 C hx3 lk_X3_106 dX3_greatestTimes_27 (q := 30) rfl ?_
    refine w_icmp_lt (tgt := 55) (q := 33) C dX3_greatestTimes_30 (by decide) rfl (fun _ => ?_) (fun _ => ?_)
    · exact WF.less (L' := [some (rf (zG Z) k), some (.int p1), some (.int p2), some (rf (zG Z) x3), some (.int x4), some (.int x5)]) (m_X3_greatestTimes_j55_ok C hR k p1 p2 x3 x4 x5 hk hx3 I hB hX0 hK) ⟨rfl, rfl, rfl, rfl, rfl, rfl, trivial⟩
    · refine w_aload_n (v := k) C dX3_greatestTimes_33 rfl (q := 34) rfl ?_
      refine g_X3_4 C hk lk_X3_21 dX3_greatestTimes_34 (q := 37) rfl ?_
      refine w_iload_n (v := p1) C dX3_greatestTimes_37 rfl (q := 38) rfl ?_
      refine w_iconst (v := (1)) C dX3_greatestTimes_38 (by decide) (q := 39) rfl ?_
      refine w_iadd C dX3_greatestTimes_39 (q := 40) rfl ?_
      refine w_iald C (st_X3_4 hk).2 dX3_greatestTimes_40 (q := 41) rfl (fun _ => ?_)
      refine w_iload_n (v := p2) C dX3_greatestTimes_41 rfl (q := 42) rfl ?_
      refine w_iload (v := x5) C dX3_greatestTimes_42 rfl (q := 44) rfl ?_
      refine w_iadd C dX3_greatestTimes_44 (q := 45) rfl ?_
      refine w_callS (val := fun r4 => some (.int r4)) (mem := fun r4 => I) (st1 := fun r4 => [.int r4]) (As := [.int (I (k + 4) (p1 + 1).toNatClampNeg), .int (p2 + x5)]) (st := []) (q := 48) C hR (fun x h => c_X3_contains (zl Z) (zG Z) (I (k + 4) (p1 + 1).toNatClampNeg) (p2 + x5)  I h) mv_X3_contains lk_X3_51 rfl (by decide) (fun _ => rfl) (Nat.le_of_ble_eq_true rfl) rfl rfl dX3_greatestTimes_45 rfl (fun r4 => ?_)
      refine w_if_eq (tgt := 55) (q := 51) C dX3_greatestTimes_48 (by decide) rfl (fun _ => ?_) (fun _ => ?_)
      · exact WF.less (L' := [some (rf (zG Z) k), some (.int p1), some (.int p2), some (rf (zG Z) x3), some (.int x4), some (.int x5)]) (m_X3_greatestTimes_j55_ok C hR k p1 p2 x3 x4 x5 hk hx3 I hB hX0 hK) ⟨rfl, rfl, rfl, rfl, rfl, rfl, trivial⟩
      · refine w_iload (v := x5) C dX3_greatestTimes_51 rfl (q := 53) rfl ?_
        refine w_istore C dX3_greatestTimes_53 (Nat.le_of_ble_eq_true rfl) (L' := [some (rf (zG Z) k), some (.int p1), some (.int p2), some (rf (zG Z) x3), some (.int x5), some (.int x5)]) rfl (q := 55) rfl ?_
        exact WF.less (L' := [some (rf (zG Z) k), some (.int p1), some (.int p2), some (rf (zG Z) x3), some (.int x5), some (.int x5)]) (m_X3_greatestTimes_j55_ok C hR k p1 p2 x3 x5 x5 hk hx3 I hB hX0 hK) ⟨rfl, rfl, rfl, rfl, rfl, rfl, trivial⟩
def m_X3_greatestTimes (k : Nat) (p1 : Int32) (p2 : Int32) (I : Mem) : Option (Int32) :=
  Option.bind (m_X8_itemAt (k - 32) p1 I) fun r1 => gd (iO r1 2) (Option.bind (loopF (fun a => m_X3_greatestTimes_b15 k p1 p2 r1 a.1 a.2 I) FU ((0 : Int32), (0 : Int32))) (sm (fun y6 => some y6) (fun b7 => some b7)))
set_option maxRecDepth 100000 in
set_option maxHeartbeats 4000000 in
theorem m_X3_greatestTimes_ok {Z : Zx} {K : Int32 → Prop} (C : Cx Z cX3_greatestTimes 6 RX3) (hR : RM Z 1 21) (k : Nat) (p1 : Int32) (p2 : Int32) (hk : isO k 3) (I : Mem) (hK : ∀ y, K (y) → RetI Z cX3_greatestTimes .int y I) : WF Z K (m_X3_greatestTimes k p1 p2 I) I 0 [some (rf (zG Z) k), some (.int p1), some (.int p2), none, none, none] [] := by
  unfold m_X3_greatestTimes
  refine w_aload_n (v := k) C dX3_greatestTimes_0 rfl (q := 1) rfl ?_
  refine g_X3_0 C hk lk_X3_24 dX3_greatestTimes_1 (q := 4) rfl ?_
  refine w_iload_n (v := p1) C dX3_greatestTimes_4 rfl (q := 5) rfl ?_
  refine w_callV (val := fun r1 => some (rf (zG Z) r1)) (mem := fun r1 => I) (st1 := fun r1 => [rf (zG Z) r1]) (As := [.int p1]) (st := []) (q := 8) C hR (fun x h => c_X8_itemAt (zl Z) (zG Z) p1 (st_X3_0 hk).2 I h) (st_X3_0 hk).2 mv_X8_itemAt lk_X3_88 rfl (by decide) (fun _ => rfl) (Nat.le_of_ble_eq_true rfl) rfl rfl dX3_greatestTimes_5 rfl (fun r1 => ?_)
  refine w_gd (fun h2 => ?_)
  refine w_astore_n C dX3_greatestTimes_8 (Nat.le_of_ble_eq_true rfl) (L' := [some (rf (zG Z) k), some (.int p1), some (.int p2), some (rf (zG Z) r1), none, none]) rfl (q := 9) rfl ?_
  refine w_iconst (v := (0)) C dX3_greatestTimes_9 (by decide) (q := 10) rfl ?_
  refine w_istore C dX3_greatestTimes_10 (Nat.le_of_ble_eq_true rfl) (L' := [some (rf (zG Z) k), some (.int p1), some (.int p2), some (rf (zG Z) r1), some (.int 0), none]) rfl (q := 12) rfl ?_
  refine w_iconst (v := (0)) C dX3_greatestTimes_12 (by decide) (q := 13) rfl ?_
  refine w_istore C dX3_greatestTimes_13 (Nat.le_of_ble_eq_true rfl) (L' := [some (rf (zG Z) k), some (.int p1), some (.int p2), some (rf (zG Z) r1), some (.int 0), some (.int 0)]) rfl (q := 15) rfl ?_
  refine WF.less (L' := [some (rf (zG Z) k), some (.int p1), some (.int p2), some (rf (zG Z) r1), some (.int 0), some (.int 0)]) (w_loopF (pc := 15) (a := ((0 : Int32), (0 : Int32))) (mem := fun a => I) (lo := fun a => [some (rf (zG Z) k), some (.int p1), some (.int p2), some (rf (zG Z) r1), some (.int a.1), some (.int a.2)]) (E := smP (fun y6 => RetI Z cX3_greatestTimes .int y6 I) (fun b7 => WM Z I 71 [none, none, none, none, some (.int b7), none] [])) (fun a => m_X3_greatestTimes_b15_ok C hR k p1 p2 r1 a.1 a.2 hk (iO_of h2) I (fun _ h => h) (fun _ h => h) (fun _ h => h)) ?_) ⟨rfl, rfl, rfl, rfl, rfl, rfl, trivial⟩
  refine w_sm ?_ ?_
  · intro y6
    exact w_hr (hK _)
  · intro b7
    refine w_hx ?_
    refine w_goto (tgt := 80) C dX3_greatestTimes_71 (by decide) ?_
    refine w_iload (v := b7) C dX3_greatestTimes_80 rfl (q := 82) rfl ?_
    exact w_iret C (hK _) rfl dX3_greatestTimes_82
theorem c_X3_greatestTimes (l : Launch) (G : Gx) {k : Nat} (p1 : Int32) (p2 : Int32) (hk : isO k 3) (I : Mem) {x : Int32} (h : m_X3_greatestTimes k p1 p2 I = some x) : Ct l G yX3_greatestTimes cX3_greatestTimes 6 (some (.int)) 1 21 [rf G k, .int p1, .int p2] I (some (.int x)) I := Ct.of (by decide +kernel) rfl (Nat.le_of_ble_eq_true rfl) ret_i (fun Z hG hl C hR hret => by
  subst hG
  exact m_X3_greatestTimes_ok (K := fun y => y = x) C hR k p1 p2 hk I (fun y hy => by subst hy; exact hret) x h rfl)
def m_X9_assign (k : Nat) (p1 : Int32) (p2 : Int32) (I : Mem) : Option (Mem) :=
  bnd (ms I k 5 p1) fun I1 => bnd (ms I1 k 6 p2) fun I2 => some I2
set_option maxRecDepth 100000 in
set_option maxHeartbeats 4000000 in
theorem m_X9_assign_ok {Z : Zx} {K : Mem → Prop} (C : Cx Z cX9_assign 3 RX9) (hR : RM Z 0 0) (k : Nat) (p1 : Int32) (p2 : Int32) (hk : isO k 9) (I : Mem) (hK : ∀ y, K (y) → RetV Z cX9_assign y) : WF Z K (m_X9_assign k p1 p2 I) I 0 [some (rf (zG Z) k), some (.int p1), some (.int p2)] [] := by
  unfold m_X9_assign
  refine w_aload_n (v := k) C dX9_assign_0 rfl (q := 1) rfl ?_
  refine w_iload_n (v := p1) C dX9_assign_1 rfl (q := 2) rfl ?_
  refine p_X9_5 C hk  lk_X9_30 dX9_assign_2 (q := 5) rfl (fun I1 => ?_)
  refine w_aload_n (v := k) C dX9_assign_5 rfl (q := 6) rfl ?_
  refine w_iload_n (v := p2) C dX9_assign_6 rfl (q := 7) rfl ?_
  refine p_X9_6 C hk  lk_X9_33 dX9_assign_7 (q := 10) rfl (fun I2 => ?_)
  exact w_vret C (hK _) dX9_assign_10
theorem c_X9_assign (l : Launch) (G : Gx) {k : Nat} (p1 : Int32) (p2 : Int32) (hk : isO k 9) (I : Mem) {x : Mem} (h : m_X9_assign k p1 p2 I = some x) : Ct l G yX9_assign cX9_assign 3 none 0 0 [rf G k, .int p1, .int p2] I (none) x := Ct.of (by decide +kernel) rfl (Nat.le_of_ble_eq_true rfl) ret_v (fun Z hG hl C hR hret => by
  subst hG
  exact m_X9_assign_ok (K := fun y => y = x) C hR k p1 p2 hk I (fun y hy => by subst hy; exact hret) x h rfl)
def m_X3_dividePass_j63 (k : Nat) (p1 : Nat) (p2 : Nat) (p3 : Int32) (x5 : Int32) (x6 : Int32) (x7 : Int32) (x8 : Int32) (y0 : Nat) (y1 : Int32) (y2 : Int32) (I : Mem) : Option ((Int32 × Mem) ⊕ ((Mem))) :=
  Option.bind (m_X9_assign y0 y1 y2 I) fun I4 => some (.inl (x8 + 1, I4))
set_option maxRecDepth 100000 in
set_option maxHeartbeats 4000000 in
theorem m_X3_dividePass_j63_ok {Z : Zx} {K : ((Int32 × Mem) ⊕ ((Mem))) → Prop} (C : Cx Z cX3_dividePass 9 RX3) (hR : RM Z 2 46) (k : Nat) (p1 : Nat) (p2 : Nat) (p3 : Int32) (x5 : Int32) (x6 : Int32) (x7 : Int32) (x8 : Int32) (y0 : Nat) (y1 : Int32) (y2 : Int32) (hk : isO k 3) (hp1 : isO p1 4) (hp2 : isO p2 0) (hy0 : isO y0 9) (I : Mem) (hB : ∀ a, K (.inl a) → WM Z a.2 33 [some (rf (zG Z) k), some (rf (zG Z) p1), some (rf (zG Z) p2), some (.int p3), none, some (.int x5), some (.int x6), some (.int x7), some (.int a.1)] []) (hX0 : ∀ b, K (.inr (b)) → WM Z b 72 [some (rf (zG Z) k), some (rf (zG Z) p1), some (rf (zG Z) p2), some (.int p3), none, some (.int x5), some (.int x6), some (.int x7), none] []) : WF Z K (m_X3_dividePass_j63 k p1 p2 p3 x5 x6 x7 x8 y0 y1 y2 I) I 63 [some (rf (zG Z) k), some (rf (zG Z) p1), some (rf (zG Z) p2), some (.int p3), none, some (.int x5), some (.int x6), some (.int x7), some (.int x8)] [.int y2, .int y1, rf (zG Z) y0] := by
  unfold m_X3_dividePass_j63
  refine w_callV (val := fun I4 => none) (mem := fun I4 => I4) (st1 := fun I4 => []) (As := [.int y1, .int y2]) (st := []) (q := 66) C hR (fun x h => c_X9_assign (zl Z) (zG Z) y1 y2 hy0 I h) hy0 mv_X9_assign lk_X3_125 rfl (by decide) (fun _ => rfl) (Nat.le_of_ble_eq_true rfl) rfl rfl dX3_dividePass_63 rfl (fun I4 => ?_)
  refine w_iinc (v := x8 + 1) C dX3_dividePass_66 rfl rfl (L' := [some (rf (zG Z) k), some (rf (zG Z) p1), some (rf (zG Z) p2), some (.int p3), none, some (.int x5), some (.int x6), some (.int x7), some (.int (x8 + 1))]) rfl (q := 69) rfl ?_
  refine w_goto (tgt := 33) C dX3_dividePass_69 (by decide) ?_
  exact w_jmp (fun h => WM.less (L' := [some (rf (zG Z) k), some (rf (zG Z) p1), some (rf (zG Z) p2), some (.int p3), none, some (.int x5), some (.int x6), some (.int x7), some (.int (x8 + 1))]) (hB _ h) ⟨rfl, rfl, rfl, rfl, rfl, rfl, rfl, rfl, trivial⟩)
def m_X3_dividePass_b33 (k : Nat) (p1 : Nat) (p2 : Nat) (p3 : Int32) (x5 : Int32) (x6 : Int32) (x7 : Int32) (x8 : Int32) (I : Mem) : Option ((Int32 × Mem) ⊕ ((Mem))) :=
  if x5 + x7 ≤ x8 then (some (.inr (I))) else (Option.bind (m_X4_bodyAt p1 x8 I) fun r2 => gd (iO r2 9) (if I p2 0 = 0 then (m_X3_dividePass_j63 k p1 p2 p3 x5 x6 x7 x8 r2 x6 ((0 : Int32)) I) else (m_X3_dividePass_j63 k p1 p2 p3 x5 x6 x7 x8 r2 x6 p3 I)))
set_option maxRecDepth 100000 in
set_option maxHeartbeats 4000000 in
theorem m_X3_dividePass_b33_ok {Z : Zx} {K : ((Int32 × Mem) ⊕ ((Mem))) → Prop} (C : Cx Z cX3_dividePass 9 RX3) (hR : RM Z 2 46) (k : Nat) (p1 : Nat) (p2 : Nat) (p3 : Int32) (x5 : Int32) (x6 : Int32) (x7 : Int32) (x8 : Int32) (hk : isO k 3) (hp1 : isO p1 4) (hp2 : isO p2 0) (I : Mem) (hB : ∀ a, K (.inl a) → WM Z a.2 33 [some (rf (zG Z) k), some (rf (zG Z) p1), some (rf (zG Z) p2), some (.int p3), none, some (.int x5), some (.int x6), some (.int x7), some (.int a.1)] []) (hX0 : ∀ b, K (.inr (b)) → WM Z b 72 [some (rf (zG Z) k), some (rf (zG Z) p1), some (rf (zG Z) p2), some (.int p3), none, some (.int x5), some (.int x6), some (.int x7), none] []) : WF Z K (m_X3_dividePass_b33 k p1 p2 p3 x5 x6 x7 x8 I) I 33 [some (rf (zG Z) k), some (rf (zG Z) p1), some (rf (zG Z) p2), some (.int p3), none, some (.int x5), some (.int x6), some (.int x7), some (.int x8)] [] := by
  unfold m_X3_dividePass_b33
  refine w_iload (v := x8) C dX3_dividePass_33 rfl (q := 35) rfl ?_
  refine w_iload (v := x5) C dX3_dividePass_35 rfl (q := 37) rfl ?_
  refine w_iload (v := x7) C dX3_dividePass_37 rfl (q := 39) rfl ?_
  refine w_iadd C dX3_dividePass_39 (q := 40) rfl ?_
  refine w_icmp_ge (tgt := 72) (q := 43) C dX3_dividePass_40 (by decide) rfl (fun _ => ?_) (fun _ => ?_)
  · exact w_jmp (fun h => WM.less (L' := [some (rf (zG Z) k), some (rf (zG Z) p1), some (rf (zG Z) p2), some (.int p3), none, some (.int x5), some (.int x6), some (.int x7), none]) (hX0 _ h) ⟨rfl, rfl, rfl, rfl, rfl, rfl, rfl, trivial⟩)
  · refine w_aload_n (v := p1) C dX3_dividePass_43 rfl (q := 44) rfl ?_
    refine w_iload (v := x8) C dX3_dividePass_44 rfl (q := 46) rfl ?_
    refine w_callV (val := fun r2 => some (rf (zG Z) r2)) (mem := fun r2 => I) (st1 := fun r2 => [rf (zG Z) r2]) (As := [.int x8]) (st := []) (q := 49) C hR (fun x h => c_X4_bodyAt (zl Z) (zG Z) x8 hp1 I h) hp1 mv_X4_bodyAt lk_X3_78 rfl (by decide) (fun _ => rfl) (Nat.le_of_ble_eq_true rfl) rfl rfl dX3_dividePass_46 rfl (fun r2 => ?_)
    refine w_gd (fun h3 => ?_)
    refine w_iload (v := x6) C dX3_dividePass_49 rfl (q := 51) rfl ?_
    refine w_aload_n (v := p2) C dX3_dividePass_51 rfl (q := 52) rfl ?_
    refine gN_X0_0 C hp2 lk_X3_121 dX3_dividePass_52 (q := 55) rfl ?_
    refine w_if_eq (tgt := 62) (q := 58) C dX3_dividePass_55 (by decide) rfl (fun _ => ?_) (fun _ => ?_)
    · refine w_iconst (v := (0)) C dX3_dividePass_62 (by decide) (q := 63) rfl ?_
      exact WF.less (L' := [some (rf (zG Z) k), some (rf (zG Z) p1), some (rf (zG Z) p2), some (.int p3), none, some (.int x5), some (.int x6), some (.int x7), some (.int x8)]) (m_X3_dividePass_j63_ok C hR k p1 p2 p3 x5 x6 x7 x8 r2 x6 ((0 : Int32)) hk hp1 hp2 (iO_of h3) I hB hX0) ⟨rfl, rfl, rfl, rfl, rfl, rfl, rfl, rfl, trivial⟩
    · refine w_iload_n (v := p3) C dX3_dividePass_58 rfl (q := 59) rfl ?_
      refine w_goto (tgt := 63) C dX3_dividePass_59 (by decide) ?_
      exact WF.less (L' := [some (rf (zG Z) k), some (rf (zG Z) p1), some (rf (zG Z) p2), some (.int p3), none, some (.int x5), some (.int x6), some (.int x7), some (.int x8)]) (m_X3_dividePass_j63_ok C hR k p1 p2 p3 x5 x6 x7 x8 r2 x6 p3 hk hp1 hp2 (iO_of h3) I hB hX0) ⟨rfl, rfl, rfl, rfl, rfl, rfl, rfl, rfl, trivial⟩
def m_X3_dividePass_b10 (k : Nat) (p1 : Nat) (p2 : Nat) (p3 : Int32) (x5 : Int32) (x6 : Int32) (I : Mem) : Option ((Int32 × Int32 × Mem) ⊕ ((Int32 × Mem))) :=
  if I p2 2 ≤ x6 then (some (.inr ((x5, I)))) else (Option.bind (m_X3_greatestTimes k x6 x5 I) fun r1 => Option.bind (loopF (fun a => m_X3_dividePass_b33 k p1 p2 p3 x5 x6 r1 a.1 a.2) FU (x5, I)) (fun b5 => some (.inl (x5 + r1, x6 + 1, b5))))
set_option maxRecDepth 100000 in
set_option maxHeartbeats 4000000 in
theorem m_X3_dividePass_b10_ok {Z : Zx} {K : ((Int32 × Int32 × Mem) ⊕ ((Int32 × Mem))) → Prop} (C : Cx Z cX3_dividePass 9 RX3) (hR : RM Z 2 46) (k : Nat) (p1 : Nat) (p2 : Nat) (p3 : Int32) (x5 : Int32) (x6 : Int32) (hk : isO k 3) (hp1 : isO p1 4) (hp2 : isO p2 0) (I : Mem) (hB : ∀ a, K (.inl a) → WM Z a.2.2 10 [some (rf (zG Z) k), some (rf (zG Z) p1), some (rf (zG Z) p2), some (.int p3), none, some (.int a.1), some (.int a.2.1), none, none] []) (hX0 : ∀ b, K (.inr (b)) → WM Z b.2 85 [none, none, none, none, none, some (.int b.1), none, none, none] []) : WF Z K (m_X3_dividePass_b10 k p1 p2 p3 x5 x6 I) I 10 [some (rf (zG Z) k), some (rf (zG Z) p1), some (rf (zG Z) p2), some (.int p3), none, some (.int x5), some (.int x6), none, none] [] := by
  unfold m_X3_dividePass_b10
  refine w_iload (v := x6) C dX3_dividePass_10 rfl (q := 12) rfl ?_
  refine w_aload_n (v := p2) C dX3_dividePass_12 rfl (q := 13) rfl ?_
  refine gN_X0_2 C hp2 lk_X3_100 dX3_dividePass_13 (q := 16) rfl ?_
  refine w_icmp_ge (tgt := 85) (q := 19) C dX3_dividePass_16 (by decide) rfl (fun _ => ?_) (fun _ => ?_)
  · exact w_jmp (fun h => WM.less (L' := [none, none, none, none, none, some (.int x5), none, none, none]) (hX0 _ h) ⟨rfl, trivial⟩)
  · refine w_aload_n (v := k) C dX3_dividePass_19 rfl (q := 20) rfl ?_
    refine w_iload (v := x6) C dX3_dividePass_20 rfl (q := 22) rfl ?_
    refine w_iload (v := x5) C dX3_dividePass_22 rfl (q := 24) rfl ?_
    refine w_callV (val := fun r1 => some (.int r1)) (mem := fun r1 => I) (st1 := fun r1 => [.int r1]) (As := [.int x6, .int x5]) (st := []) (q := 27) C hR (fun x h => c_X3_greatestTimes (zl Z) (zG Z) x6 x5 hk I h) hk mv_X3_greatestTimes lk_X3_118 rfl (by decide) (fun _ => rfl) (Nat.le_of_ble_eq_true rfl) rfl rfl dX3_dividePass_24 rfl (fun r1 => ?_)
    refine w_istore C dX3_dividePass_27 (Nat.le_of_ble_eq_true rfl) (L' := [some (rf (zG Z) k), some (rf (zG Z) p1), some (rf (zG Z) p2), some (.int p3), none, some (.int x5), some (.int x6), some (.int r1), none]) rfl (q := 29) rfl ?_
    refine w_iload (v := x5) C dX3_dividePass_29 rfl (q := 31) rfl ?_
    refine w_istore C dX3_dividePass_31 (Nat.le_of_ble_eq_true rfl) (L' := [some (rf (zG Z) k), some (rf (zG Z) p1), some (rf (zG Z) p2), some (.int p3), none, some (.int x5), some (.int x6), some (.int r1), some (.int x5)]) rfl (q := 33) rfl ?_
    refine WF.less (L' := [some (rf (zG Z) k), some (rf (zG Z) p1), some (rf (zG Z) p2), some (.int p3), none, some (.int x5), some (.int x6), some (.int r1), some (.int x5)]) (w_loopF (pc := 33) (a := (x5, I)) (mem := fun a => a.2) (lo := fun a => [some (rf (zG Z) k), some (rf (zG Z) p1), some (rf (zG Z) p2), some (.int p3), none, some (.int x5), some (.int x6), some (.int r1), some (.int a.1)]) (E := fun b5 => WM Z b5 72 [some (rf (zG Z) k), some (rf (zG Z) p1), some (rf (zG Z) p2), some (.int p3), none, some (.int x5), some (.int x6), some (.int r1), none] []) (fun a => m_X3_dividePass_b33_ok C hR k p1 p2 p3 x5 x6 r1 a.1 hk hp1 hp2 a.2 (fun _ h => h) (fun _ h => h)) ?_) ⟨rfl, rfl, rfl, rfl, rfl, rfl, rfl, rfl, trivial⟩
    intro b5
    refine w_hx ?_
    refine w_iload (v := x5) C dX3_dividePass_72 rfl (q := 74) rfl ?_
    refine w_iload (v := r1) C dX3_dividePass_74 rfl (q := 76) rfl ?_
    refine w_iadd C dX3_dividePass_76 (q := 77) rfl ?_
    refine w_istore C dX3_dividePass_77 (Nat.le_of_ble_eq_true rfl) (L' := [some (rf (zG Z) k), some (rf (zG Z) p1), some (rf (zG Z) p2), some (.int p3), none, some (.int (x5 + r1)), some (.int x6), some (.int r1), none]) rfl (q := 79) rfl ?_
    refine w_iinc (v := x6 + 1) C dX3_dividePass_79 rfl rfl (L' := [some (rf (zG Z) k), some (rf (zG Z) p1), some (rf (zG Z) p2), some (.int p3), none, some (.int (x5 + r1)), some (.int (x6 + 1)), some (.int r1), none]) rfl (q := 82) rfl ?_
    refine w_goto (tgt := 10) C dX3_dividePass_82 (by decide) ?_
    exact w_jmp (fun h => WM.less (L' := [some (rf (zG Z) k), some (rf (zG Z) p1), some (rf (zG Z) p2), some (.int p3), none, some (.int (x5 + r1)), some (.int (x6 + 1)), none, none]) (hB _ h) ⟨rfl, rfl, rfl, rfl, rfl, rfl, trivial⟩)
def m_X3_dividePass (k : Nat) (p1 : Nat) (p2 : Nat) (p3 : Int32) (p4 : Int32) (I : Mem) : Option (Int32 × Mem) :=
  Option.bind (loopF (fun a => m_X3_dividePass_b10 k p1 p2 p3 a.1 a.2.1 a.2.2) FU (p4, I p2 1, I)) (fun b6 => some ((b6.1, b6.2)))
set_option maxRecDepth 100000 in
set_option maxHeartbeats 4000000 in
theorem m_X3_dividePass_ok {Z : Zx} {K : (Int32 × Mem) → Prop} (C : Cx Z cX3_dividePass 9 RX3) (hR : RM Z 2 46) (k : Nat) (p1 : Nat) (p2 : Nat) (p3 : Int32) (p4 : Int32) (hk : isO k 3) (hp1 : isO p1 4) (hp2 : isO p2 0) (I : Mem) (hK : ∀ y, K (y) → RetI Z cX3_dividePass .int y.1 y.2) : WF Z K (m_X3_dividePass k p1 p2 p3 p4 I) I 0 [some (rf (zG Z) k), some (rf (zG Z) p1), some (rf (zG Z) p2), some (.int p3), some (.int p4), none, none, none, none] [] := by
  unfold m_X3_dividePass
  refine w_iload (v := p4) C dX3_dividePass_0 rfl (q := 2) rfl ?_
  refine w_istore C dX3_dividePass_2 (Nat.le_of_ble_eq_true rfl) (L' := [some (rf (zG Z) k), some (rf (zG Z) p1), some (rf (zG Z) p2), some (.int p3), some (.int p4), some (.int p4), none, none, none]) rfl (q := 4) rfl ?_
  refine w_aload_n (v := p2) C dX3_dividePass_4 rfl (q := 5) rfl ?_
  refine gN_X0_1 C hp2 lk_X3_103 dX3_dividePass_5 (q := 8) rfl ?_
  refine w_istore C dX3_dividePass_8 (Nat.le_of_ble_eq_true rfl) (L' := [some (rf (zG Z) k), some (rf (zG Z) p1), some (rf (zG Z) p2), some (.int p3), some (.int p4), some (.int p4), some (.int (I p2 1)), none, none]) rfl (q := 10) rfl ?_
  refine WF.less (L' := [some (rf (zG Z) k), some (rf (zG Z) p1), some (rf (zG Z) p2), some (.int p3), none, some (.int p4), some (.int (I p2 1)), none, none]) (w_loopF (pc := 10) (a := (p4, I p2 1, I)) (mem := fun a => a.2.2) (lo := fun a => [some (rf (zG Z) k), some (rf (zG Z) p1), some (rf (zG Z) p2), some (.int p3), none, some (.int a.1), some (.int a.2.1), none, none]) (E := fun b6 => WM Z b6.2 85 [none, none, none, none, none, some (.int b6.1), none, none, none] []) (fun a => m_X3_dividePass_b10_ok C hR k p1 p2 p3 a.1 a.2.1 hk hp1 hp2 a.2.2 (fun _ h => h) (fun _ h => h)) ?_) ⟨rfl, rfl, rfl, rfl, rfl, rfl, trivial⟩
  intro b6
  refine w_hx ?_
  refine w_iload (v := b6.1) C dX3_dividePass_85 rfl (q := 87) rfl ?_
  exact w_iret C (hK _) rfl dX3_dividePass_87
theorem c_X3_dividePass (l : Launch) (G : Gx) {k : Nat} {p1 : Nat} {p2 : Nat} (p3 : Int32) (p4 : Int32) (hk : isO k 3) (hp1 : isO p1 4) (hp2 : isO p2 0) (I : Mem) {x : Int32 × Mem} (h : m_X3_dividePass k p1 p2 p3 p4 I = some x) : Ct l G yX3_dividePass cX3_dividePass 9 (some (.int)) 2 46 [rf G k, rf G p1, rf G p2, .int p3, .int p4] I (some (.int x.1)) x.2 := Ct.of (by decide +kernel) rfl (Nat.le_of_ble_eq_true rfl) ret_i (fun Z hG hl C hR hret => by
  subst hG
  exact m_X3_dividePass_ok (K := fun y => y = x) C hR k p1 p2 p3 p4 hk hp1 hp2 I (fun y hy => by subst hy; exact hret) x h rfl)
def m_X3_divide_b42 (k : Nat) (p1 : Nat) (x3 : Int32) (x4 : Nat) (x2 : Int32) (x5 : Int32) (I : Mem) : Option ((Int32 × Int32 × Mem) ⊕ ((Int32 × Mem))) :=
  if I x4 4 ≤ x5 then (some (.inr ((x2, I)))) else (gd (inb (x5 + 1) 10) (Option.bind (m_X3_placesBeforePass k x4 (I (k + 3) (x5 + 1).toNatClampNeg) I) fun r5 => Option.bind (m_X3_contains r5.1 x2 r5.2) fun r6 => if r6 = 0 then (some (.inr ((x2, r5.2)))) else (Option.bind (m_X3_dividePass k p1 x4 (x5 + 1) x2 r5.2) fun r7 => some (.inl (r7.1, x5 + 1, r7.2)))))
set_option maxRecDepth 100000 in
set_option maxHeartbeats 4000000 in
theorem m_X3_divide_b42_ok {Z : Zx} {K : ((Int32 × Int32 × Mem) ⊕ ((Int32 × Mem))) → Prop} (C : Cx Z cX3_divide 6 RX3) (hR : RM Z 3 78) (k : Nat) (p1 : Nat) (x3 : Int32) (x4 : Nat) (x2 : Int32) (x5 : Int32) (hk : isO k 3) (hp1 : isO p1 4) (hx4 : isO x4 0) (I : Mem) (hB : ∀ a, K (.inl a) → WM Z a.2.2 42 [some (rf (zG Z) k), some (rf (zG Z) p1), some (.int a.1), some (.int x3), some (rf (zG Z) x4), some (.int a.2.1)] []) (hX0 : ∀ b, K (.inr (b)) → WM Z b.2 91 [some (rf (zG Z) k), some (rf (zG Z) p1), some (.int b.1), some (.int x3), none, none] []) : WF Z K (m_X3_divide_b42 k p1 x3 x4 x2 x5 I) I 42 [some (rf (zG Z) k), some (rf (zG Z) p1), some (.int x2), some (.int x3), some (rf (zG Z) x4), some (.int x5)] [] := by
  unfold m_X3_divide_b42
  refine w_iload (v := x5) C dX3_divide_42 rfl (q := 44) rfl ?_
  refine w_aload (v := x4) C dX3_divide_44 rfl (q := 46) rfl ?_
  refine gN_X0_4 C hx4 lk_X3_55 dX3_divide_46 (q := 49) rfl ?_
  refine w_icmp_ge (tgt := 91) (q := 52) C dX3_divide_49 (by decide) rfl (fun _ => ?_) (fun _ => ?_)
  · exact w_jmp (fun h => WM.less (L' := [some (rf (zG Z) k), some (rf (zG Z) p1), some (.int x2), some (.int x3), none, none]) (hX0 _ h) ⟨rfl, rfl, rfl, rfl, trivial⟩)
  · refine w_aload_n (v := k) C dX3_divide_52 rfl (q := 53) rfl ?_
    refine w_aload (v := x4) C dX3_divide_53 rfl (q := 55) rfl ?_
    refine w_aload_n (v := k) C dX3_divide_55 rfl (q := 56) rfl ?_
    refine g_X3_3 C hk lk_X3_18 dX3_divide_56 (q := 59) rfl ?_
    refine w_iload (v := x5) C dX3_divide_59 rfl (q := 61) rfl ?_
    refine w_iconst (v := (1)) C dX3_divide_61 (by decide) (q := 62) rfl ?_
    refine w_iadd C dX3_divide_62 (q := 63) rfl ?_
    refine w_iald C (st_X3_3 hk).2 dX3_divide_63 (q := 64) rfl (fun _ => ?_)
    refine w_callV (val := fun r5 => some (.int r5.1)) (mem := fun r5 => r5.2) (st1 := fun r5 => [.int r5.1]) (As := [rf (zG Z) x4, .int (I (k + 3) (x5 + 1).toNatClampNeg)]) (st := []) (q := 67) C hR (fun x h => c_X3_placesBeforePass (zl Z) (zG Z) (I (k + 3) (x5 + 1).toNatClampNeg) hk hx4 I h) hk mv_X3_placesBeforePass lk_X3_61 rfl (by decide) (fun _ => rfl) (Nat.le_of_ble_eq_true rfl) rfl rfl dX3_divide_64 rfl (fun r5 => ?_)
    refine w_iload_n (v := x2) C dX3_divide_67 rfl (q := 68) rfl ?_
    refine w_callS (val := fun r6 => some (.int r6)) (mem := fun r6 => r5.2) (st1 := fun r6 => [.int r6]) (As := [.int r5.1, .int x2]) (st := []) (q := 71) C hR (fun x h => c_X3_contains (zl Z) (zG Z) r5.1 x2  r5.2 h) mv_X3_contains lk_X3_51 rfl (by decide) (fun _ => rfl) (Nat.le_of_ble_eq_true rfl) rfl rfl dX3_divide_68 rfl (fun r6 => ?_)
    refine w_if_eq (tgt := 91) (q := 74) C dX3_divide_71 (by decide) rfl (fun _ => ?_) (fun _ => ?_)
    · exact w_jmp (fun h => WM.less (L' := [some (rf (zG Z) k), some (rf (zG Z) p1), some (.int x2), some (.int x3), none, none]) (hX0 _ h) ⟨rfl, rfl, rfl, rfl, trivial⟩)
    · refine w_iinc (v := x5 + 1) C dX3_divide_74 rfl rfl (L' := [some (rf (zG Z) k), some (rf (zG Z) p1), some (.int x2), some (.int x3), some (rf (zG Z) x4), some (.int (x5 + 1))]) rfl (q := 77) rfl ?_
      refine w_aload_n (v := k) C dX3_divide_77 rfl (q := 78) rfl ?_
      refine w_aload_n (v := p1) C dX3_divide_78 rfl (q := 79) rfl ?_
      refine w_aload (v := x4) C dX3_divide_79 rfl (q := 81) rfl ?_
      refine w_iload (v := x5 + 1) C dX3_divide_81 rfl (q := 83) rfl ?_
      refine w_iload_n (v := x2) C dX3_divide_83 rfl (q := 84) rfl ?_
      refine w_callV (val := fun r7 => some (.int r7.1)) (mem := fun r7 => r7.2) (st1 := fun r7 => [.int r7.1]) (As := [rf (zG Z) p1, rf (zG Z) x4, .int (x5 + 1), .int x2]) (st := []) (q := 87) C hR (fun x h => c_X3_dividePass (zl Z) (zG Z) (x5 + 1) x2 hk hp1 hx4 r5.2 h) hk mv_X3_dividePass lk_X3_65 rfl (by decide) (fun _ => rfl) (Nat.le_of_ble_eq_true rfl) rfl rfl dX3_divide_84 rfl (fun r7 => ?_)
      refine w_istore_n C dX3_divide_87 (Nat.le_of_ble_eq_true rfl) (L' := [some (rf (zG Z) k), some (rf (zG Z) p1), some (.int r7.1), some (.int x3), some (rf (zG Z) x4), some (.int (x5 + 1))]) rfl (q := 88) rfl ?_
      refine w_goto (tgt := 42) C dX3_divide_88 (by decide) ?_
      exact w_jmp (fun h => WM.less (L' := [some (rf (zG Z) k), some (rf (zG Z) p1), some (.int r7.1), some (.int x3), some (rf (zG Z) x4), some (.int (x5 + 1))]) (hB _ h) ⟨rfl, rfl, rfl, rfl, rfl, rfl, trivial⟩)
def m_X3_divide_b4 (k : Nat) (p1 : Nat) (x2 : Int32) (x3 : Int32) (I : Mem) : Option ((Int32 × Int32 × Mem) ⊕ ((Mem))) :=
  Option.bind (m_X8_entryCount (k - 32) I) fun r1 => if r1 ≤ x3 then (some (.inr (I))) else (Option.bind (m_X8_entryAt (k - 32) x3 I) fun r2 => gd (iO r2 0) (gd (inb (x3 + 1) 12) (Option.bind (m_X3_findAfters k r2 (I (k + 2) (x3 + 1).toNatClampNeg) I) fun I4 => Option.bind (loopF (fun a => m_X3_divide_b42 k p1 x3 r2 a.1 a.2.1 a.2.2) FU (x2, (0 : Int32), I4)) (fun b8 => some (.inl (b8.1, x3 + 1, b8.2))))))
set_option maxRecDepth 100000 in
set_option maxHeartbeats 4000000 in
theorem m_X3_divide_b4_ok {Z : Zx} {K : ((Int32 × Int32 × Mem) ⊕ ((Mem))) → Prop} (C : Cx Z cX3_divide 6 RX3) (hR : RM Z 3 78) (k : Nat) (p1 : Nat) (x2 : Int32) (x3 : Int32) (hk : isO k 3) (hp1 : isO p1 4) (I : Mem) (hB : ∀ a, K (.inl a) → WM Z a.2.2 4 [some (rf (zG Z) k), some (rf (zG Z) p1), some (.int a.1), some (.int a.2.1), none, none] []) (hX0 : ∀ b, K (.inr (b)) → WM Z b 97 [none, none, none, none, none, none] []) : WF Z K (m_X3_divide_b4 k p1 x2 x3 I) I 4 [some (rf (zG Z) k), some (rf (zG Z) p1), some (.int x2), some (.int x3), none, none] [] := by
  unfold m_X3_divide_b4
  refine w_iload_n (v := x3) C dX3_divide_4 rfl (q := 5) rfl ?_
  refine w_aload_n (v := k) C dX3_divide_5 rfl (q := 6) rfl ?_
  refine g_X3_0 C hk lk_X3_24 dX3_divide_6 (q := 9) rfl ?_
  refine w_callV (val := fun r1 => some (.int r1)) (mem := fun r1 => I) (st1 := fun r1 => [.int r1, .int x3]) (As := []) (st := [.int x3]) (q := 12) C hR (fun x h => c_X8_entryCount (zl Z) (zG Z)  (st_X3_0 hk).2 I h) (st_X3_0 hk).2 mv_X8_entryCount lk_X3_32 rfl (by decide) (fun _ => rfl) (Nat.le_of_ble_eq_true rfl) rfl rfl dX3_divide_9 rfl (fun r1 => ?_)
  refine w_icmp_ge (tgt := 97) (q := 15) C dX3_divide_12 (by decide) rfl (fun _ => ?_) (fun _ => ?_)
  · exact w_jmp (fun h => WM.less (L' := [none, none, none, none, none, none]) (hX0 _ h) trivial)
  · refine w_aload_n (v := k) C dX3_divide_15 rfl (q := 16) rfl ?_
    refine g_X3_0 C hk lk_X3_24 dX3_divide_16 (q := 19) rfl ?_
    refine w_iload_n (v := x3) C dX3_divide_19 rfl (q := 20) rfl ?_
    refine w_callV (val := fun r2 => some (rf (zG Z) r2)) (mem := fun r2 => I) (st1 := fun r2 => [rf (zG Z) r2]) (As := [.int x3]) (st := []) (q := 23) C hR (fun x h => c_X8_entryAt (zl Z) (zG Z) x3 (st_X3_0 hk).2 I h) (st_X3_0 hk).2 mv_X8_entryAt lk_X3_43 rfl (by decide) (fun _ => rfl) (Nat.le_of_ble_eq_true rfl) rfl rfl dX3_divide_20 rfl (fun r2 => ?_)
    refine w_gd (fun h3 => ?_)
    refine w_astore C dX3_divide_23 (Nat.le_of_ble_eq_true rfl) (L' := [some (rf (zG Z) k), some (rf (zG Z) p1), some (.int x2), some (.int x3), some (rf (zG Z) r2), none]) rfl (q := 25) rfl ?_
    refine w_aload_n (v := k) C dX3_divide_25 rfl (q := 26) rfl ?_
    refine w_aload (v := r2) C dX3_divide_26 rfl (q := 28) rfl ?_
    refine w_aload_n (v := k) C dX3_divide_28 rfl (q := 29) rfl ?_
    refine g_X3_2 C hk lk_X3_15 dX3_divide_29 (q := 32) rfl ?_
    refine w_iload_n (v := x3) C dX3_divide_32 rfl (q := 33) rfl ?_
    refine w_iconst (v := (1)) C dX3_divide_33 (by decide) (q := 34) rfl ?_
    refine w_iadd C dX3_divide_34 (q := 35) rfl ?_
    refine w_iald C (st_X3_2 hk).2 dX3_divide_35 (q := 36) rfl (fun _ => ?_)
    refine w_callV (val := fun I4 => none) (mem := fun I4 => I4) (st1 := fun I4 => []) (As := [rf (zG Z) r2, .int (I (k + 2) (x3 + 1).toNatClampNeg)]) (st := []) (q := 39) C hR (fun x h => c_X3_findAfters (zl Z) (zG Z) (I (k + 2) (x3 + 1).toNatClampNeg) hk (iO_of h3) I h) hk mv_X3_findAfters lk_X3_47 rfl (by decide) (fun _ => rfl) (Nat.le_of_ble_eq_true rfl) rfl rfl dX3_divide_36 rfl (fun I4 => ?_)
    refine w_iconst (v := (0)) C dX3_divide_39 (by decide) (q := 40) rfl ?_
    refine w_istore C dX3_divide_40 (Nat.le_of_ble_eq_true rfl) (L' := [some (rf (zG Z) k), some (rf (zG Z) p1), some (.int x2), some (.int x3), some (rf (zG Z) r2), some (.int 0)]) rfl (q := 42) rfl ?_
    refine WF.less (L' := [some (rf (zG Z) k), some (rf (zG Z) p1), some (.int x2), some (.int x3), some (rf (zG Z) r2), some (.int 0)]) (w_loopF (pc := 42) (a := (x2, (0 : Int32), I4)) (mem := fun a => a.2.2) (lo := fun a => [some (rf (zG Z) k), some (rf (zG Z) p1), some (.int a.1), some (.int x3), some (rf (zG Z) r2), some (.int a.2.1)]) (E := fun b8 => WM Z b8.2 91 [some (rf (zG Z) k), some (rf (zG Z) p1), some (.int b8.1), some (.int x3), none, none] []) (fun a => m_X3_divide_b42_ok C hR k p1 x3 r2 a.1 a.2.1 hk hp1 (iO_of h3) a.2.2 (fun _ h => h) (fun _ h => h)) ?_) ⟨rfl, rfl, rfl, rfl, rfl, rfl, trivial⟩
    intro b8
    refine w_hx ?_
    refine w_iinc (v := x3 + 1) C dX3_divide_91 rfl rfl (L' := [some (rf (zG Z) k), some (rf (zG Z) p1), some (.int b8.1), some (.int (x3 + 1)), none, none]) rfl (q := 94) rfl ?_
    refine w_goto (tgt := 4) C dX3_divide_94 (by decide) ?_
    exact w_jmp (fun h => WM.less (L' := [some (rf (zG Z) k), some (rf (zG Z) p1), some (.int b8.1), some (.int (x3 + 1)), none, none]) (hB _ h) ⟨rfl, rfl, rfl, rfl, trivial⟩)
def m_X3_divide (k : Nat) (p1 : Nat) (I : Mem) : Option (Mem) :=
  Option.bind (loopF (fun a => m_X3_divide_b4 k p1 a.1 a.2.1 a.2.2) FU ((0 : Int32), (0 : Int32), I)) (fun b9 => some b9)
set_option maxRecDepth 100000 in
set_option maxHeartbeats 4000000 in
theorem m_X3_divide_ok {Z : Zx} {K : Mem → Prop} (C : Cx Z cX3_divide 6 RX3) (hR : RM Z 3 78) (k : Nat) (p1 : Nat) (hk : isO k 3) (hp1 : isO p1 4) (I : Mem) (hK : ∀ y, K (y) → RetV Z cX3_divide y) : WF Z K (m_X3_divide k p1 I) I 0 [some (rf (zG Z) k), some (rf (zG Z) p1), none, none, none, none] [] := by
  unfold m_X3_divide
  refine w_iconst (v := (0)) C dX3_divide_0 (by decide) (q := 1) rfl ?_
  refine w_istore_n C dX3_divide_1 (Nat.le_of_ble_eq_true rfl) (L' := [some (rf (zG Z) k), some (rf (zG Z) p1), some (.int 0), none, none, none]) rfl (q := 2) rfl ?_
  refine w_iconst (v := (0)) C dX3_divide_2 (by decide) (q := 3) rfl ?_
  refine w_istore_n C dX3_divide_3 (Nat.le_of_ble_eq_true rfl) (L' := [some (rf (zG Z) k), some (rf (zG Z) p1), some (.int 0), some (.int 0), none, none]) rfl (q := 4) rfl ?_
  refine WF.less (L' := [some (rf (zG Z) k), some (rf (zG Z) p1), some (.int 0), some (.int 0), none, none]) (w_loopF (pc := 4) (a := ((0 : Int32), (0 : Int32), I)) (mem := fun a => a.2.2) (lo := fun a => [some (rf (zG Z) k), some (rf (zG Z) p1), some (.int a.1), some (.int a.2.1), none, none]) (E := fun b9 => WM Z b9 97 [none, none, none, none, none, none] []) (fun a => m_X3_divide_b4_ok C hR k p1 a.1 a.2.1 hk hp1 a.2.2 (fun _ h => h) (fun _ h => h)) ?_) ⟨rfl, rfl, rfl, rfl, trivial⟩
  intro b9
  refine w_hx ?_
  exact w_vret C (hK _) dX3_divide_97
theorem c_X3_divide (l : Launch) (G : Gx) {k : Nat} {p1 : Nat} (hk : isO k 3) (hp1 : isO p1 4) (I : Mem) {x : Mem} (h : m_X3_divide k p1 I = some x) : Ct l G yX3_divide cX3_divide 6 none 3 78 [rf G k, rf G p1] I (none) x := Ct.of (by decide +kernel) rfl (Nat.le_of_ble_eq_true rfl) ret_v (fun Z hG hl C hR hret => by
  subst hG
  exact m_X3_divide_ok (K := fun y => y = x) C hR k p1 hk hp1 I (fun y hy => by subst hy; exact hret) x h rfl)
def m_X3_placesBehindItem_j34 (k : Nat) (p1 : Int32) (p2 : Int32) (p3 : Int32) (x5 : Int32) (x6 : Int32) (x7 : Int32) (I : Mem) : Option ((Int32 × Int32 × Int32) ⊕ ((Int32))) :=
  gd (inb p1 10) (some (.inl (x5, (x6 &&& (I (k + 1) p1.toNatClampNeg)) <<< (1 &&& 31), x7 + 1)))
set_option maxRecDepth 100000 in
set_option maxHeartbeats 4000000 in
theorem m_X3_placesBehindItem_j34_ok {Z : Zx} {K : ((Int32 × Int32 × Int32) ⊕ ((Int32))) → Prop} (C : Cx Z cX3_placesBehindItem 8 RX3) (hR : RM Z 0 0) (k : Nat) (p1 : Int32) (p2 : Int32) (p3 : Int32) (x5 : Int32) (x6 : Int32) (x7 : Int32) (hk : isO k 3) (I : Mem) (hB : ∀ a, K (.inl a) → WM Z I 10 [some (rf (zG Z) k), some (.int p1), some (.int p2), some (.int p3), none, some (.int a.1), some (.int a.2.1), some (.int a.2.2)] []) (hX0 : ∀ b, K (.inr (b)) → WM Z I 53 [none, none, none, none, none, some (.int b), none, none] []) : WF Z K (m_X3_placesBehindItem_j34 k p1 p2 p3 x5 x6 x7 I) I 34 [some (rf (zG Z) k), some (.int p1), some (.int p2), some (.int p3), none, some (.int x5), some (.int x6), some (.int x7)] [] := by
  unfold m_X3_placesBehindItem_j34
  refine w_iload (v := x6) C dX3_placesBehindItem_34 rfl (q := 36) rfl ?_
  refine w_aload_n (v := k) C dX3_placesBehindItem_36 rfl (q := 37) rfl ?_
  refine g_X3_1 C hk lk_X3_9 dX3_placesBehindItem_37 (q := 40) rfl ?_
  refine w_iload_n (v := p1) C dX3_placesBehindItem_40 rfl (q := 41) rfl ?_
  refine w_iald C (st_X3_1 hk).2 dX3_placesBehindItem_41 (q := 42) rfl (fun _ => ?_)
  refine w_iand C dX3_placesBehindItem_42 (q := 43) rfl ?_
  refine w_iconst (v := (1)) C dX3_placesBehindItem_43 (by decide) (q := 44) rfl ?_
  refine w_ishl C dX3_placesBehindItem_44 (q := 45) rfl ?_
  refine w_istore C dX3_placesBehindItem_45 (Nat.le_of_ble_eq_true rfl) (L' := [some (rf (zG Z) k), some (.int p1), some (.int p2), some (.int p3), none, some (.int x5), some (.int ((x6 &&& (I (k + 1) p1.toNatClampNeg)) <<< (1 &&& 31))), some (.int x7)]) rfl (q := 47) rfl ?_
  refine w_iinc (v := x7 + 1) C dX3_placesBehindItem_47 rfl rfl (L' := [some (rf (zG Z) k), some (.int p1), some (.int p2), some (.int p3), none, some (.int x5), some (.int ((x6 &&& (I (k + 1) p1.toNatClampNeg)) <<< (1 &&& 31))), some (.int (x7 + 1))]) rfl (q := 50) rfl ?_
  refine w_goto (tgt := 10) C dX3_placesBehindItem_50 (by decide) ?_
  exact w_jmp (fun h => WM.less (L' := [some (rf (zG Z) k), some (.int p1), some (.int p2), some (.int p3), none, some (.int x5), some (.int ((x6 &&& (I (k + 1) p1.toNatClampNeg)) <<< (1 &&& 31))), some (.int (x7 + 1))]) (hB _ h) ⟨rfl, rfl, rfl, rfl, rfl, rfl, rfl, trivial⟩)
def m_X3_placesBehindItem_b10 (k : Nat) (p1 : Int32) (p2 : Int32) (p3 : Int32) (x5 : Int32) (x6 : Int32) (x7 : Int32) (I : Mem) : Option ((Int32 × Int32 × Int32) ⊕ ((Int32))) :=
  if p3 < x7 then (some (.inr (x5))) else (if x6 = 0 then (some (.inr (x5))) else (if x7 < p2 then (m_X3_placesBehindItem_j34 k p1 p2 p3 x5 x6 x7 I) else (m_X3_placesBehindItem_j34 k p1 p2 p3 (x5 ||| x6) x6 x7 I)))
set_option maxRecDepth 100000 in
set_option maxHeartbeats 4000000 in
theorem m_X3_placesBehindItem_b10_ok {Z : Zx} {K : ((Int32 × Int32 × Int32) ⊕ ((Int32))) → Prop} (C : Cx Z cX3_placesBehindItem 8 RX3) (hR : RM Z 0 0) (k : Nat) (p1 : Int32) (p2 : Int32) (p3 : Int32) (x5 : Int32) (x6 : Int32) (x7 : Int32) (hk : isO k 3) (I : Mem) (hB : ∀ a, K (.inl a) → WM Z I 10 [some (rf (zG Z) k), some (.int p1), some (.int p2), some (.int p3), none, some (.int a.1), some (.int a.2.1), some (.int a.2.2)] []) (hX0 : ∀ b, K (.inr (b)) → WM Z I 53 [none, none, none, none, none, some (.int b), none, none] []) : WF Z K (m_X3_placesBehindItem_b10 k p1 p2 p3 x5 x6 x7 I) I 10 [some (rf (zG Z) k), some (.int p1), some (.int p2), some (.int p3), none, some (.int x5), some (.int x6), some (.int x7)] [] := by
  unfold m_X3_placesBehindItem_b10
  refine w_iload (v := x7) C dX3_placesBehindItem_10 rfl (q := 12) rfl ?_
  refine w_iload_n (v := p3) C dX3_placesBehindItem_12 rfl (q := 13) rfl ?_
  refine w_icmp_gt (tgt := 53) (q := 16) C dX3_placesBehindItem_13 (by decide) rfl (fun _ => ?_) (fun _ => ?_)
  · exact w_jmp (fun h => WM.less (L' := [none, none, none, none, none, some (.int x5), none, none]) (hX0 _ h) ⟨rfl, trivial⟩)
  · refine w_iload (v := x6) C dX3_placesBehindItem_16 rfl (q := 18) rfl ?_
    refine w_if_eq (tgt := 53) (q := 21) C dX3_placesBehindItem_18 (by decide) rfl (fun _ => ?_) (fun _ => ?_)
    · exact w_jmp (fun h => WM.less (L' := [none, none, none, none, none, some (.int x5), none, none]) (hX0 _ h) ⟨rfl, trivial⟩)
    · refine w_iload (v := x7) C dX3_placesBehindItem_21 rfl (q := 23) rfl ?_
      refine w_iload_n (v := p2) C dX3_placesBehindItem_23 rfl (q := 24) rfl ?_
      refine w_icmp_lt (tgt := 34) (q := 27) C dX3_placesBehindItem_24 (by decide) rfl (fun _ => ?_) (fun _ => ?_)
      · exact WF.less (L' := [some (rf (zG Z) k), some (.int p1), some (.int p2), some (.int p3), none, some (.int x5), some (.int x6), some (.int x7)]) (m_X3_placesBehindItem_j34_ok C hR k p1 p2 p3 x5 x6 x7 hk I hB hX0) ⟨rfl, rfl, rfl, rfl, rfl, rfl, rfl, trivial⟩
      · refine w_iload (v := x5) C dX3_placesBehindItem_27 rfl (q := 29) rfl ?_
        refine w_iload (v := x6) C dX3_placesBehindItem_29 rfl (q := 31) rfl ?_
        refine w_ior C dX3_placesBehindItem_31 (q := 32) rfl ?_
        refine w_istore C dX3_placesBehindItem_32 (Nat.le_of_ble_eq_true rfl) (L' := [some (rf (zG Z) k), some (.int p1), some (.int p2), some (.int p3), none, some (.int (x5 ||| x6)), some (.int x6), some (.int x7)]) rfl (q := 34) rfl ?_
        exact WF.less (L' := [some (rf (zG Z) k), some (.int p1), some (.int p2), some (.int p3), none, some (.int (x5 ||| x6)), some (.int x6), some (.int x7)]) (m_X3_placesBehindItem_j34_ok C hR k p1 p2 p3 (x5 ||| x6) x6 x7 hk I hB hX0) ⟨rfl, rfl, rfl, rfl, rfl, rfl, rfl, trivial⟩
def m_X3_placesBehindItem (k : Nat) (p1 : Int32) (p2 : Int32) (p3 : Int32) (p4 : Int32) (I : Mem) : Option (Int32) :=
  Option.bind (loopF (fun a => m_X3_placesBehindItem_b10 k p1 p2 p3 a.1 a.2.1 a.2.2 I) FU ((0 : Int32), p4, (0 : Int32))) (fun b1 => some b1)
set_option maxRecDepth 100000 in
set_option maxHeartbeats 4000000 in
theorem m_X3_placesBehindItem_ok {Z : Zx} {K : Int32 → Prop} (C : Cx Z cX3_placesBehindItem 8 RX3) (hR : RM Z 0 0) (k : Nat) (p1 : Int32) (p2 : Int32) (p3 : Int32) (p4 : Int32) (hk : isO k 3) (I : Mem) (hK : ∀ y, K (y) → RetI Z cX3_placesBehindItem .int y I) : WF Z K (m_X3_placesBehindItem k p1 p2 p3 p4 I) I 0 [some (rf (zG Z) k), some (.int p1), some (.int p2), some (.int p3), some (.int p4), none, none, none] [] := by
  unfold m_X3_placesBehindItem
  refine w_iconst (v := (0)) C dX3_placesBehindItem_0 (by decide) (q := 1) rfl ?_
  refine w_istore C dX3_placesBehindItem_1 (Nat.le_of_ble_eq_true rfl) (L' := [some (rf (zG Z) k), some (.int p1), some (.int p2), some (.int p3), some (.int p4), some (.int 0), none, none]) rfl (q := 3) rfl ?_
  refine w_iload (v := p4) C dX3_placesBehindItem_3 rfl (q := 5) rfl ?_
  refine w_istore C dX3_placesBehindItem_5 (Nat.le_of_ble_eq_true rfl) (L' := [some (rf (zG Z) k), some (.int p1), some (.int p2), some (.int p3), some (.int p4), some (.int 0), some (.int p4), none]) rfl (q := 7) rfl ?_
  refine w_iconst (v := (0)) C dX3_placesBehindItem_7 (by decide) (q := 8) rfl ?_
  refine w_istore C dX3_placesBehindItem_8 (Nat.le_of_ble_eq_true rfl) (L' := [some (rf (zG Z) k), some (.int p1), some (.int p2), some (.int p3), some (.int p4), some (.int 0), some (.int p4), some (.int 0)]) rfl (q := 10) rfl ?_
  refine WF.less (L' := [some (rf (zG Z) k), some (.int p1), some (.int p2), some (.int p3), none, some (.int 0), some (.int p4), some (.int 0)]) (w_loopF (pc := 10) (a := ((0 : Int32), p4, (0 : Int32))) (mem := fun a => I) (lo := fun a => [some (rf (zG Z) k), some (.int p1), some (.int p2), some (.int p3), none, some (.int a.1), some (.int a.2.1), some (.int a.2.2)]) (E := fun b1 => WM Z I 53 [none, none, none, none, none, some (.int b1), none, none] []) (fun a => m_X3_placesBehindItem_b10_ok C hR k p1 p2 p3 a.1 a.2.1 a.2.2 hk I (fun _ h => h) (fun _ h => h)) ?_) ⟨rfl, rfl, rfl, rfl, rfl, rfl, rfl, trivial⟩
  intro b1
  refine w_hx ?_
  refine w_iload (v := b1) C dX3_placesBehindItem_53 rfl (q := 55) rfl ?_
  exact w_iret C (hK _) rfl dX3_placesBehindItem_55
theorem c_X3_placesBehindItem (l : Launch) (G : Gx) {k : Nat} (p1 : Int32) (p2 : Int32) (p3 : Int32) (p4 : Int32) (hk : isO k 3) (I : Mem) {x : Int32} (h : m_X3_placesBehindItem k p1 p2 p3 p4 I = some x) : Ct l G yX3_placesBehindItem cX3_placesBehindItem 8 (some (.int)) 0 0 [rf G k, .int p1, .int p2, .int p3, .int p4] I (some (.int x)) I := Ct.of (by decide +kernel) rfl (Nat.le_of_ble_eq_true rfl) ret_i (fun Z hG hl C hR hret => by
  subst hG
  exact m_X3_placesBehindItem_ok (K := fun y => y = x) C hR k p1 p2 p3 p4 hk I (fun y hy => by subst hy; exact hret) x h rfl)
